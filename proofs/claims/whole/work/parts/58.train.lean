theorem two_n : ∀ n, n ≤ 6 → (1 : Int32) <<< (nI n &&& 31) = nI (2 ^ n) := by decide +kernel
theorem pow6 {n : Nat} (h : n ≤ 6) : 2 ^ n ≤ 64 := by
  have : 2 ^ n ≤ 2 ^ 6 := Nat.pow_le_pow_right (by decide) h
  omega
theorem isSet_r {m : Mm} {n : Nat} (h0 : m 1 0 = nI n) (h6 : n ≤ 6) (x : Int32) : fX12_isSet x m = some (b2 (isS x (2 ^ n)), m) := by
  unfold fX12_isSet
  have := pow6 h6
  have d : fX12_isIn (Int32.toInt64 x) 0 (Int32.toInt64 (nI (2 ^ n) - 1)) m = some (b2 (isS x (2 ^ n)), m) := isIdx_r (by omega) x m rfl rfl rfl
  rw [h0, two_n n h6, d, bd_s]
  cases isS x (2 ^ n)
  · rw [show b2 false = 0 from rfl, gb_0]
  · rw [show b2 true = 1 from rfl, gb_1]
theorem isSets_c {i : Nat} {m : Mm} {s : Nat → Int32} {n : Nat} (hG : GymIs i m s) (h0 : s 0 = nI n) (h6 : n ≤ 6) (x : Int32) : fX1_isOfSets i x m = some (b2 (isS x (2 ^ n)), m) := by
  unfold fX1_isOfSets isS
  rw [hG.1.1, h0, two_n n h6]
  by_cases c1 : x < 0
  · rw [if_pos c1, decide_eq_false (fun q => q c1)]; rfl
  · rw [if_neg c1, decide_eq_true c1]
    by_cases c2 : nI (2 ^ n) ≤ x
    · rw [if_pos c2, decide_eq_false (Int32.not_lt.mpr c2)]; rfl
    · rw [if_neg c2, decide_eq_true (Int32.not_le.mp c2)]; rfl
theorem op_train (a1 a2 : Int32) : Op (fX11_train a1 a2) (fX12_train a1 a2) := by
  intro mc mr hR
  obtain ⟨n, hn⟩ := hR.2.1.1
  have h6 := hn.2.1
  have hp := pow6 h6
  unfold fX11_train fX12_train
  rw [isLong_r, bd_s]
  rcases rngC a1 (lo := 0) (hi := 4) (by decide) (by decide) with e | ⟨⟨N, -, N4, rfl⟩, e⟩
  · rw [e, if_pos b2f]
    rcases rngF e with k | ⟨k, k2⟩
    · rw [if_pos (show a1 < 0 from k)]; exact ⟨-1, mc, mr, rfl, rfl, hR⟩
    · rw [if_neg (show ¬ a1 < 0 from k), if_pos (show 4 < a1 from k2)]; exact ⟨-1, mc, mr, rfl, rfl, hR⟩
  rw [e, if_neg b2t, if_neg (nI_pos (by omega)), if_neg (show ¬ (4 : Int32) < nI N from nI_nlt (a := 4) N4 (by decide)), isSet_r hn.1 h6, isSets_c hR.1.1 hn.1 h6, bd_s, bd_s]
  rcases isS_cases a2 (n := 2 ^ n) (by omega) with e | ⟨e, -⟩
  · rw [e, if_pos b2f, if_pos b2f]; exact ⟨-1, mc, mr, rfl, rfl, hR⟩
  obtain ⟨L, m1, m2, hL, q1, q2, r, P, F, -, -⟩ := hR.search hn N4 a2
  obtain ⟨-, -, -, -, -, k8, -, -, k20⟩ := P
  rw [e, if_neg b2t, if_neg b2t, q1, q2, bd_s, bd_s]
  rcases k20 with k20 | ⟨v, v4, k20⟩
  · rw [k20] at k8 ⊢
    rw [if_pos (show (9 : Int32) ≤ 9 by decide), if_pos (show (4 : Int32) < m1 64 8 by rcases k8 with k | ⟨k, -⟩ <;> rw [k] <;> decide)]
    exact ⟨-3, m1, m2, rfl, rfl, r⟩
  · rcases k8 with k | ⟨-, k⟩
    · rw [k, k20, if_neg (show ¬ (4 : Int32) < nI v from nI_nlt (a := 4) v4 (by decide)), if_neg (show ¬ (9 : Int32) ≤ nI v from nI_ge (b := 9) (by omega) (by decide))]
      exact ⟨_, m1, m2, rfl, rfl, r⟩
    · rw [k20] at k
      exact absurd k (fun q => by have := (nI_eq (a := v) (b := 9) (by omega) (by decide)).mp q; omega)
theorem i_andX (α : Nat) (hα : α < 2 ^ 32) (X : Int32) : nI α &&& X = nI (α &&& X.toBitVec.toNat) := by
  apply Int32.toBitVec_inj.mp
  apply BitVec.eq_of_toNat_eq
  rw [Int32.toBitVec_and, BitVec.toNat_and, pk_tn hα, pk_tn (Nat.lt_of_le_of_lt Nat.and_le_left hα)]
theorem bit6 : ∀ β, β < 64 → ∀ k, k < 7 → ((nI β >>> (nI k &&& 31)) &&& 1) = (if β.testBit k then 1 else 0) := by decide +kernel
theorem bars_b {β n : Nat} {x2 : Int32} (h6 : n ≤ 6) (hβ : β < 64) {m1 m2 : Mm} (h0 : m2 1 0 = nI n) (hx : x2 &&& ((m2 0 21) ^^^ (-1)) = nI β) : ∀ (d k q q' : Nat), k + d = n → d < q → d < q' → (∃ j, k ≤ j ∧ j < n ∧ β.testBit j = true) →
    ∃ r, fX11_leastOf_2 q (nI β) (nI k) m1 = some (r, m1) ∧ fX12_bars_25 q' x2 (nI k) m2 = some (r, m2) := by
  intro d
  induction d with
  | zero =>
    intro k q q' hd hq hq' hj
    obtain ⟨j, j1, j2, -⟩ := hj
    omega
  | succ d ih =>
    intro k q q' hd hq hq' hj
    obtain ⟨q, rfl⟩ : ∃ z, q = z + 1 := ⟨q - 1, by omega⟩
    obtain ⟨q', rfl⟩ : ∃ z, q' = z + 1 := ⟨q' - 1, by omega⟩
    rw [fX11_leastOf_2, fX12_bars_25, if_neg (show ¬ (31 : Int32) ≤ nI k from nI_ge (b := 31) (by omega) (by decide)), h0, if_neg (nI_ge (by omega) (by omega)), hx, bit6 β hβ k (by omega)]
    cases hb : β.testBit k
    · rw [if_neg (show ¬ false = true by decide), if_pos rfl, if_neg (by decide), lt_v, lt_v, p1]
      obtain ⟨j, j1, j2, j3⟩ := hj
      exact ih (k + 1) q q' (by omega) (by omega) (by omega) ⟨j, by
        by_cases e : j = k
        · subst e; rw [hb] at j3; exact absurd j3 (by decide)
        · omega, j2, j3⟩
    · rw [if_pos rfl, if_neg (by decide), if_pos rfl]
      exact ⟨_, rfl, rfl⟩
theorem bars_0 {n : Nat} {x2 : Int32} (h6 : n ≤ 6) {m2 : Mm} (h0 : m2 1 0 = nI n) (hx : x2 &&& ((m2 0 21) ^^^ (-1)) = nI 0) : ∀ (d k q : Nat), k + d = n → d < q → fX12_bars_25 q x2 (nI k) m2 = some (-3, m2) := by
  intro d
  induction d with
  | zero =>
    intro k q hd hq
    obtain ⟨q, rfl⟩ : ∃ z, q = z + 1 := ⟨q - 1, by omega⟩
    rw [fX12_bars_25, h0, if_pos (nI_le (by omega) (by omega))]
  | succ d ih =>
    intro k q hd hq
    obtain ⟨q, rfl⟩ : ∃ z, q = z + 1 := ⟨q - 1, by omega⟩
    rw [fX12_bars_25, h0, if_neg (nI_ge (by omega) (by omega)), hx, bit6 0 (by decide) k (by omega), show (0 : Nat).testBit k = false from Nat.zero_testBit k, if_neg (show ¬ (if false = true then (1 : Int32) else 0) = 1 by decide), lt_v, p1]
    exact ih (k + 1) q (by omega) (by omega)
theorem op_bars (a1 a2 : Int32) : Op (fX11_bars a1 a2) (fX12_bars a1 a2) := by
  intro mc mr hR
  obtain ⟨n, hn⟩ := hR.2.1.1
  have h6 := hn.2.1
  have hp := pow6 h6
  unfold fX11_bars fX12_bars
  rw [isLong_r, bd_s]
  rcases rngC a1 (lo := 0) (hi := 4) (by decide) (by decide) with e | ⟨⟨N, -, N4, rfl⟩, e⟩
  · rw [e, if_pos b2f]
    rcases rngF e with k | ⟨k, k2⟩
    · rw [if_pos (show a1 < 0 from k)]; exact ⟨-1, mc, mr, rfl, rfl, hR⟩
    · rw [if_neg (show ¬ a1 < 0 from k), if_pos (show 4 < a1 from k2)]; exact ⟨-1, mc, mr, rfl, rfl, hR⟩
  rw [e, if_neg b2t, if_neg (nI_pos (by omega)), if_neg (show ¬ (4 : Int32) < nI N from nI_nlt (a := 4) N4 (by decide)), isSet_r hn.1 h6, isSets_c hR.1.1 hn.1 h6, bd_s, bd_s]
  rcases isS_cases a2 (n := 2 ^ n) (by omega) with e | ⟨e, α, hα, rfl⟩
  · rw [e, if_pos b2f, if_pos b2f]; exact ⟨-1, mc, mr, rfl, rfl, hR⟩
  obtain ⟨L, m1, m2, hL, q1, q2, r, P, F, eq1, -⟩ := hR.search hn N4 (nI α)
  obtain ⟨-, -, -, -, -, -, k9, -, -⟩ := P
  have h0 : m2 1 0 = nI n := by rw [eq1]; exact hn.1
  rw [e, if_neg b2t, if_neg b2t, q1, q2, bd_s, bd_s, lt_v, k9]
  have hx := i_andX α (by omega) ((m2 0 21) ^^^ (-1))
  have hle : α &&& ((m2 0 21) ^^^ (-1)).toBitVec.toNat ≤ α := Nat.and_le_left
  generalize hβ : α &&& ((m2 0 21) ^^^ (-1)).toBitVec.toNat = β at hx hle
  rw [hx]
  by_cases c : β = 0
  · subst c
    rw [if_pos (show nI 0 = 0 from rfl)]
    exact ⟨-3, m1, m2, rfl, bars_0 h6 h0 hx n 0 FL (by omega) (by unfold FL; omega), r⟩
  · rw [if_neg (nI_ne0 (by omega) (by omega))]
    have hex : ∃ j, 0 ≤ j ∧ j < n ∧ β.testBit j = true := by
      obtain ⟨j, hj⟩ := Nat.exists_testBit_of_ne_zero c
      refine ⟨j, by omega, ?_, hj⟩
      rcases Nat.lt_or_ge j n with h | h
      · exact h
      · have : β.testBit j = false := Nat.testBit_lt_two_pow (Nat.lt_of_lt_of_le (show β < 2 ^ n by omega) (Nat.pow_le_pow_right (by decide) h))
        rw [this] at hj
        exact absurd hj (by decide)
    obtain ⟨r9, b1, b2⟩ := bars_b (m1 := m1) h6 (show β < 64 by omega) h0 hx n 0 FL FL (by omega) (by unfold FL; omega) (by unfold FL; omega) hex
    have b1' : fX11_leastOf (nI β) m1 = some (r9, m1) := b1
    rw [b1', bd_s]
    exact ⟨r9, m1, m2, rfl, b2, r⟩
