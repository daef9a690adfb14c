/-! may, gains, tires of a set, in both -/
theorem isTaken_r {m : Mm} {o : Nat} (h : o < 6) {t : Int32} (hm : Bd 0 5 (m 1 (8 + 5 * o + 1))) : fX12_isTaken (nI o) t m = some (b2 (tk (m 1 (47 + ix (m 1 (8 + 5 * o + 1)))) t), m) := by
  obtain ⟨v, -, v2, hv⟩ := hm
  rw [fX12_isTaken, its1 h, bd_s, hv, show (47 : Int32) = nI 47 from rfl, nI_add, gx_n (by omega) (by decide), ix_n (by omega), ix_n (by omega)]
  unfold tk
  by_cases c : (m 1 (47 + v) >>> (t &&& 31)) &&& 1 = 1 <;> simp [c]
theorem pos_cases {t : Int32} (ht : ¬ t < 0) : (t = 0 ∧ ¬ 0 < t ∧ t ≤ 0) ∨ (0 < t ∧ ¬ t = 0 ∧ ¬ t ≤ 0) := by
  rcases Int32.lt_or_le 0 t with h | h
  · refine Or.inr ⟨h, fun e => by subst e; exact absurd h (by decide), Int32.not_le.mpr h⟩
  · have e : t = 0 := Int32.le_antisymm h (Int32.not_lt.mp ht)
    exact Or.inl ⟨e, Int32.not_lt.mpr h, h⟩
theorem may_r {m : Mm} {o : Nat} (h : o < 6) {t : Int32} (hS : SetOk (m 1) o) (ht : ¬ t < 0) : fX12_may (nI o) t m = some (b2 (mayS (m 1) o t), m) := by
  obtain ⟨⟨k, k1, k5, hk⟩, hm, -⟩ := hS
  unfold fX12_may mayS
  rw [its0 h, bd_s]
  simp only [isTaken_r h hm, bd_s, hk]
  rw [ix_n (by omega)]
  generalize hT : m 1 (47 + ix (m 1 (8 + 5 * o + 1))) = T
  rcases pos_cases ht with ⟨rfl, a1, a2⟩ | ⟨a0, a1, a2⟩
  · rcases (show k = 1 ∨ k = 2 ∨ k = 3 ∨ k = 4 ∨ k = 5 by omega) with rfl | rfl | rfl | rfl | rfl <;>
      cases hb : tk T 0 <;> simp [mayK, nI, hb, bd_s, b2, gb_0, gb_1] <;> decide
  · by_cases e : t - t / 2 * 2 = 1 <;> rcases (show k = 1 ∨ k = 2 ∨ k = 3 ∨ k = 4 ∨ k = 5 by omega) with rfl | rfl | rfl | rfl | rfl <;>
      cases hb : tk T t <;> cases hc : tk T (t - 1) <;> simp [mayK, nI, hb, hc, bd_s, b2, gb_0, gb_1, a0, a1, a2, e]
theorem gains_r {m : Mm} {o : Nat} (h : o < 6) (hS : SetOk (m 1) o) : fX12_gains (nI o) m = some (gainsK (ix (m 1 (8 + 5 * o))) (m 1 (8 + 5 * o + 2)) (m 1 1), m) := by
  obtain ⟨⟨k, k1, k5, hk⟩, -⟩ := hS
  unfold fX12_gains
  rw [its2 h, bd_s, its0 h, bd_s, hk, ix_n (by omega)]
  by_cases e : m 1 1 - m 1 1 / 2 * 2 = 0 <;> rcases (show k = 1 ∨ k = 2 ∨ k = 3 ∨ k = 4 ∨ k = 5 by omega) with rfl | rfl | rfl | rfl | rfl <;> simp [gainsK, nI, e]
theorem tires_r {m : Mm} {o : Nat} (h : o < 6) (hS : SetOk (m 1) o) : fX12_tires (nI o) m = some (tiresK (ix (m 1 (8 + 5 * o))), m) := by
  obtain ⟨⟨k, k1, k5, hk⟩, -⟩ := hS
  unfold fX12_tires
  rw [its0 h, bd_s, hk, ix_n (by omega)]
  rcases (show k = 1 ∨ k = 2 ∨ k = 3 ∨ k = 4 ∨ k = 5 by omega) with rfl | rfl | rfl | rfl | rfl <;> simp [tiresK, nI]
section GYM
variable {i : Nat} {m : Mm} {s : Nat → Int32} {o : Nat}
theorem g_of (hG : GymIs i m s) {w : Nat} (hw : w < 5) (ho : o < 6) : m (gp i (2 + w)) o = s (8 + 5 * o + w) := hG.2.1 w hw o ho
theorem g_kind (hG : GymIs i m s) (ho : o < 6) : m (gp i 2) o = s (8 + 5 * o) := hG.2.1 0 (by decide) o ho
theorem g_mach (hG : GymIs i m s) (ho : o < 6) : m (gp i 3) o = s (8 + 5 * o + 1) := hG.2.1 1 (by decide) o ho
theorem g_wt (hG : GymIs i m s) (ho : o < 6) : m (gp i 4) o = s (8 + 5 * o + 2) := hG.2.1 2 (by decide) o ho
theorem g_mus (hG : GymIs i m s) (ho : o < 6) : m (gp i 5) o = s (8 + 5 * o + 3) := hG.2.1 3 (by decide) o ho
theorem g_left (hG : GymIs i m s) (ho : o < 6) : m (gp i 6) o = s (8 + 5 * o + 4) := hG.2.1 4 (by decide) o ho
theorem mayIn_c (hG : GymIs i m s) (h : o < 6) (hS : SetOk s o) {t : Int32} (ht : ¬ t < 0) : fX1_mayIn i (nI o) t m = some (b2 (mayS s o t), m) := by
  obtain ⟨⟨k, k1, k5, hk⟩, ⟨a, -, a5, ha⟩, -⟩ := hS
  unfold fX1_mayIn mayS
  rw [gx_n h (by decide), ix_n (by omega), g_kind hG h, g_mach hG h, hk, ha, gx_n (by omega) (by decide), gx_n (by omega) (by decide), ix_n (by omega), ix_n (by omega), hG.2.2.2.2 a (by omega), v_may_c k1 k5 ht, bd_s]
  cases mayK k (s (47 + a)) t <;> simp [b2, gb_0, gb_1]
theorem gains_c (hG : GymIs i m s) (h : o < 6) (hS : SetOk s o) : fX1_gains i (nI o) m = some (gainsK (ix (s (8 + 5 * o))) (s (8 + 5 * o + 2)) (s 1), m) := by
  obtain ⟨⟨k, k1, k5, hk⟩, -⟩ := hS
  unfold fX1_gains
  rw [gx_n h (by decide), ix_n (by omega), g_kind hG h, hk, gx_n (by omega) (by decide), ix_n (by omega), v_gains_c k1 k5, bd_s, g_wt hG h, hG.1.2.1]
theorem tires_c (hG : GymIs i m s) (h : o < 6) (hS : SetOk s o) : fX1_tires i (nI o) m = some (tiresK (ix (s (8 + 5 * o))), m) := by
  obtain ⟨⟨k, k1, k5, hk⟩, -⟩ := hS
  unfold fX1_tires
  rw [gx_n h (by decide), ix_n (by omega), g_kind hG h, hk, gx_n (by omega) (by decide), ix_n (by omega), v_tires_c k1 k5, bd_s]
theorem has_c {n : Nat} (h0 : m (gp i 0) 3 = nI n) (hn : n < 2 ^ 31) (x : Int32) : fX1_has i x m = some (b2 (decide (¬ x < 0) && decide (x < nI n)), m) := by
  unfold fX1_has
  rw [h0]
  by_cases c1 : x < 0
  · simp [c1]
  · by_cases c2 : nI n ≤ x
    · simp [c1, c2, Int32.not_lt.mpr c2]
    · simp [c1, c2, Int32.not_le.mp c2]
end GYM
