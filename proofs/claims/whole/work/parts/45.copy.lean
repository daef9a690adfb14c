theorem upA_app {m : Mm} {p q : Nat} {f : Nat → Int32} : upA m p f q = if q = p then f else m q := rfl
theorem gp_eq {i a b : Nat} : (gp i a = gp i b) = (a = b) := by unfold gp; apply propext; omega
theorem gp_ji {i j a b : Nat} (h : j ≠ i) (ha : a < 13) (hb : b < 13) : (gp j a = gp i b) = False := by unfold gp; apply propext; exact ⟨fun q => by omega, False.elim⟩
theorem ite_f {p : Prop} [Decidable p] {f g : Nat → Int32} {k : Nat} : (if p then f else g) k = if p then f k else g k := by split <;> rfl
theorem copy_c {i j : Nat} {m : Mm} {s : Nat → Int32} (hij : j ≠ i) (hG : GymIs j m s) : ∃ m', fX1_copy i j m = some (0, m') ∧ GymIs i m' s ∧ Fr (gymP i) m m' := by
  obtain ⟨⟨a, b, c, d, f⟩, h2, h3, h4, h5⟩ := hG
  have P : ∀ k, k < 13 → gymP i (gp i k) := fun k hk => gymP_in hk
  unfold fX1_copy
  rw [show FL = 4091 + 1 + 1 + 1 + 1 + 1 from rfl, show (0 : Int32) = nI 0 from rfl,
    fX1_copy_2, if_neg (show ¬ (4 : Int32) ≤ nI 0 by decide), gx_n (by decide) (by decide), ix_n (by decide), lt_v, lt_v, p1,
    fX1_copy_2, if_neg (show ¬ (4 : Int32) ≤ nI (0 + 1) by decide), gx_n (by decide) (by decide), ix_n (by decide), lt_v, lt_v, p1,
    fX1_copy_2, if_neg (show ¬ (4 : Int32) ≤ nI (0 + 1 + 1) by decide), gx_n (by decide) (by decide), ix_n (by decide), lt_v, lt_v, p1,
    fX1_copy_2, if_neg (show ¬ (4 : Int32) ≤ nI (0 + 1 + 1 + 1) by decide), gx_n (by decide) (by decide), ix_n (by decide), lt_v, lt_v, p1,
    fX1_copy_2, if_pos (show (4 : Int32) ≤ nI (0 + 1 + 1 + 1 + 1) by decide), lt_v, lt_v, lt_v, lt_v]
  unfold fX1_follow
  rw [lt_v, lt_v, lt_v, lt_v, lt_v, bd_s]
  refine ⟨_, rfl, ⟨⟨?_, ?_, ?_, ?_, ?_⟩, fun w hw o ho => ?_, fun u hu => ?_, fun k hk => ?_, fun k hk => ?_⟩, ?_⟩
  · simp [up_app, upA_app, gp_eq, gp_ji hij, a]
  · simp [up_app, upA_app, gp_eq, gp_ji hij, b]
  · simp [up_app, upA_app, gp_eq, gp_ji hij, c]
  · simp [up_app, upA_app, gp_eq, gp_ji hij, d]
  · simp [up_app, upA_app, gp_eq, gp_ji hij, f]
  · have := h2 w hw o ho
    rcases (show w = 0 ∨ w = 1 ∨ w = 2 ∨ w = 3 ∨ w = 4 by omega) with rfl | rfl | rfl | rfl | rfl <;>
      simp [up_app, upA_app, gp_eq, gp_ji hij, cpy, ho] <;> exact this
  · have := h3 u hu
    simp [up_app, upA_app, gp_eq, gp_ji hij, cpy, hu]
    exact this
  · have := h4 k hk
    simp [up_app, upA_app, gp_eq, gp_ji hij, cpy, hk]
    exact this
  · have := h5 k hk
    simp [up_app, upA_app, gp_eq, gp_ji hij, cpy, hk]
    exact this
  · exact ((((((((((((Fr.rf.upA (P _ (by decide))).upA (P _ (by decide))).upA (P _ (by decide))).upA (P _ (by decide))).up (P _ (by decide))).upA (P _ (by decide))).up (P _ (by decide))).up (P _ (by decide))).upA (P _ (by decide))).upA (P _ (by decide))).upA (P _ (by decide))).up (P _ (by decide))).up (P _ (by decide))
/-- what follow leaves out -/
def StatEq (s s' : Nat → Int32) : Prop := s' 0 = s 0 ∧ s' 2 = s 2 ∧ (∀ o, o < 6 → ∀ w, w < 4 → s' (8 + 5 * o + w) = s (8 + 5 * o + w)) ∧ ∀ k, k < 6 → s' (47 + k) = s (47 + k)
theorem follow_c {i j : Nat} {m : Mm} {s s0 : Nat → Int32} (hij : j ≠ i) (hG : GymIs j m s) (h0 : GymIs i m s0) (hs : StatEq s s0) :
    ∃ m', fX1_follow i j m = some (0, m') ∧ GymIs i m' (upd s 4 (s0 4)) ∧ Fr (gymP i) m m' := by
  obtain ⟨⟨a, b, c, d, f⟩, h2, h3, h4, h5⟩ := hG
  obtain ⟨⟨a', b', c', d', f'⟩, h2', h3', h4', h5'⟩ := h0
  obtain ⟨e0, e2, eo, et⟩ := hs
  have P : ∀ k, k < 13 → gymP i (gp i k) := fun k hk => gymP_in hk
  unfold fX1_follow
  rw [lt_v, lt_v, lt_v, lt_v, lt_v]
  refine ⟨_, rfl, ⟨⟨?_, ?_, ?_, ?_, ?_⟩, fun w hw o ho => ?_, fun u hu => ?_, fun k hk => ?_, fun k hk => ?_⟩, ?_⟩
  · simp [up_app, upA_app, gp_eq, gp_ji hij, u_app, a', e0]
  · simp [up_app, upA_app, gp_eq, gp_ji hij, u_app, b]
  · simp [up_app, upA_app, gp_eq, gp_ji hij, u_app, c', e2]
  · simp [up_app, upA_app, gp_eq, gp_ji hij, u_app, d]
  · simp [up_app, upA_app, gp_eq, gp_ji hij, u_app, f']
  · rw [pk_un (by omega)]
    have e4 := h2 w hw o ho
    have e5 := h2' w hw o ho
    rcases (show w = 0 ∨ w = 1 ∨ w = 2 ∨ w = 3 ∨ w = 4 by omega) with rfl | rfl | rfl | rfl | rfl
    · have := eo o ho 0 (by decide)
      simp [up_app, upA_app, gp_eq, gp_ji hij, cpy, ho]
      exact e5.trans this
    · have := eo o ho 1 (by decide)
      simp [up_app, upA_app, gp_eq, gp_ji hij, cpy, ho]
      exact e5.trans this
    · have := eo o ho 2 (by decide)
      simp [up_app, upA_app, gp_eq, gp_ji hij, cpy, ho]
      exact e5.trans this
    · have := eo o ho 3 (by decide)
      simp [up_app, upA_app, gp_eq, gp_ji hij, cpy, ho]
      exact e5.trans this
    · simp [up_app, upA_app, gp_eq, gp_ji hij, cpy, ho]
      exact e4
  · have := h3 u hu
    rw [pk_un (by omega)]
    simp [up_app, upA_app, gp_eq, gp_ji hij, cpy, hu]
    exact this
  · have := h4 k hk
    rw [pk_un (by omega)]
    simp [up_app, upA_app, gp_eq, gp_ji hij, cpy, hk]
    exact this
  · have := h5' k hk
    rw [pk_un (by omega)]
    simp [up_app, upA_app, gp_eq, gp_ji hij, cpy, hk]
    exact this.trans (et k hk)
  · exact ((((Fr.rf.upA (P _ (by decide))).upA (P _ (by decide))).upA (P _ (by decide))).up (P _ (by decide))).up (P _ (by decide))
/-! the reference lays its row aside, and back -/
theorem e_47 {a b : Nat} : (47 : Int32) * nI a + nI b = nI (47 * a + b) := by rw [show (47 : Int32) = nI 47 from rfl, pk_mul, nI_add]
theorem aside_loop {a : Nat} (ha : a < 5) : ∀ (d x q : Nat) (m : Mm), x + d = 47 → d < q → ∃ f, fX12_laysAside_2 q (nI a) (nI x) m = some (0, upA m 3 f) ∧ (∀ k, x ≤ k → k < 47 → f (47 * a + k) = m 1 k) ∧ (∀ k, (k < 47 * a + x ∨ 47 * a + 47 ≤ k) → f k = m 3 k) := by
  intro d
  induction d with
  | zero =>
    intro x q m hd hq
    obtain ⟨q, rfl⟩ : ∃ q', q = q' + 1 := ⟨q - 1, by omega⟩
    rw [fX12_laysAside_2, if_pos (show (47 : Int32) ≤ nI x from nI_le (a := 47) (by omega) (by omega))]
    exact ⟨m 3, by rw [upA_self], fun k h1 h2 => by omega, fun k _ => rfl⟩
  | succ d ih =>
    intro x q m hd hq
    obtain ⟨q, rfl⟩ : ∃ q', q = q' + 1 := ⟨q - 1, by omega⟩
    rw [fX12_laysAside_2, if_neg (show ¬ (47 : Int32) ≤ nI x from nI_ge (b := 47) (by omega) (by omega)), gx_n (by omega) (by decide), e_47, gx_n (by omega) (by decide), ix_n (by omega), ix_n (by omega), lt_v, lt_v, p1]
    obtain ⟨f, e, f1, f2⟩ := ih (x + 1) q (up m 3 (47 * a + x) (m 1 x)) (by omega) (by omega)
    refine ⟨f, ?_, fun k h1 h2 => ?_, fun k hk => ?_⟩
    · rw [e]
      show some ((0 : Int32), upA (upA m 3 _) 3 f) = _
      rw [upA_upA]
    · by_cases hk : k = x
      · subst hk
        rw [f2 _ (by omega), up_at]
      · rw [f1 k (by omega) h2, up_row (by decide)]
    · rw [f2 k (by omega), up_ne (Or.inr (by omega))]
theorem aside_r {a : Nat} (ha : a < 5) (m : Mm) : ∃ f, fX12_laysAside (nI a) m = some (0, upA m 3 f) ∧ (∀ k, k < 47 → f (47 * a + k) = m 1 k) ∧ (∀ k, (k < 47 * a ∨ 47 * a + 47 ≤ k) → f k = m 3 k) := by
  obtain ⟨f, e, f1, f2⟩ := aside_loop ha 47 0 FL m (by omega) (by decide)
  exact ⟨f, e, fun k hk => f1 k (by omega) hk, fun k hk => f2 k (by omega)⟩
theorem back_loop {a : Nat} (ha : a < 5) : ∀ (d x q : Nat) (m : Mm), x + d = 47 → d < q → ∃ f, fX12_laysBack_2 q (nI a) (nI x) m = some (0, upA m 1 f) ∧ (∀ k, x ≤ k → k < 47 → f k = m 3 (47 * a + k)) ∧ (∀ k, (k < x ∨ 47 ≤ k) → f k = m 1 k) := by
  intro d
  induction d with
  | zero =>
    intro x q m hd hq
    obtain ⟨q, rfl⟩ : ∃ q', q = q' + 1 := ⟨q - 1, by omega⟩
    rw [fX12_laysBack_2, if_pos (show (47 : Int32) ≤ nI x from nI_le (a := 47) (by omega) (by omega))]
    exact ⟨m 1, by rw [upA_self], fun k h1 h2 => by omega, fun k _ => rfl⟩
  | succ d ih =>
    intro x q m hd hq
    obtain ⟨q, rfl⟩ : ∃ q', q = q' + 1 := ⟨q - 1, by omega⟩
    rw [fX12_laysBack_2, if_neg (show ¬ (47 : Int32) ≤ nI x from nI_ge (b := 47) (by omega) (by omega)), e_47, gx_n (by omega) (by decide), gx_n (by omega) (by decide), ix_n (by omega), ix_n (by omega), lt_v, lt_v, p1]
    obtain ⟨f, e, f1, f2⟩ := ih (x + 1) q (up m 1 x (m 3 (47 * a + x))) (by omega) (by omega)
    refine ⟨f, ?_, fun k h1 h2 => ?_, fun k hk => ?_⟩
    · rw [e]
      show some ((0 : Int32), upA (upA m 1 _) 1 f) = _
      rw [upA_upA]
    · by_cases hk : k = x
      · subst hk
        rw [f2 _ (by omega), up_at]
      · rw [f1 k (by omega) h2, up_row (by decide)]
    · rw [f2 k (by omega), up_ne (Or.inr (by omega))]
/-- back to a row that lies aside, if the rest of the row is that row's -/
theorem back_r {a : Nat} (ha : a < 5) {m : Mm} {s : Nat → Int32} (h3 : ∀ k, k < 47 → m 3 (47 * a + k) = s k) (h1 : ∀ k, 47 ≤ k → m 1 k = s k) : fX12_laysBack (nI a) m = some (0, upA m 1 s) := by
  obtain ⟨f, e, f1, f2⟩ := back_loop ha 47 0 FL m (by omega) (by decide)
  have : f = s := funext fun k => by
    by_cases hk : k < 47
    · rw [f1 k (by omega) hk, h3 k hk]
    · rw [f2 k (by omega), h1 k (by omega)]
  rw [← this]
  exact e
