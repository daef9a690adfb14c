def freeF (T : Int32) (N : Nat) (x : Int32) : Nat → Nat → Int32
  | 0, _ => -3
  | d + 1, t => if 16 < t + N then -3 else if (T >>> (nI t &&& 31)) &&& x = 0 then nI t else freeF T N x d (t + 1)
theorem free_c {mc : Mm} {a N : Nat} {T x : Int32} (ha : a < 6) (hT : mc (gp 0 9) a = T) (hN : N ≤ 16) : ∀ (d t q : Nat), t + d = 17 → d < q → fX11_free_38 q (nI a) (nI N) x (nI t) mc = some (freeF T N x d t, mc) ∨ N = 0 := by
  intro d
  induction d with
  | zero =>
    intro t q hd hq
    obtain ⟨q, rfl⟩ : ∃ q', q = q' + 1 := ⟨q - 1, by omega⟩
    refine Or.inl ?_
    rw [fX11_free_38, nI_add, if_pos (show (16 : Int32) < nI (t + N) from nI_lt (a := 16) (by omega) (by omega))]
    rfl
  | succ d ih =>
    intro t q hd hq
    obtain ⟨q, rfl⟩ : ∃ q', q = q' + 1 := ⟨q - 1, by omega⟩
    rcases ih (t + 1) q (by omega) (by omega) with e | e
    · refine Or.inl ?_
      rw [fX11_free_38, nI_add, freeF]
      by_cases c : 16 < t + N
      · rw [if_pos (show (16 : Int32) < nI (t + N) from nI_lt (a := 16) (by omega) (by omega)), if_pos c]
      · rw [if_neg (show ¬ (16 : Int32) < nI (t + N) from nI_nlt (a := 16) (by omega) (by decide)), if_neg c, gx_n ha (by decide), ix_n (by omega), hT]
        by_cases c2 : (T >>> (nI t &&& 31)) &&& x = 0
        · rw [if_pos c2, if_pos c2]
        · rw [if_neg c2, if_neg c2, lt_v, p1]; exact e
    · exact Or.inr e
theorem free_r {mr : Mm} {a N : Nat} {T x : Int32} (ha : a < 6) (hT : mr 1 (47 + a) = T) (hN : N ≤ 16) : ∀ (d t q : Nat), t + d = 17 → d < q → fX12_free_35 q (nI a) (nI N) x (nI t) mr = some (freeF T N x d t, mr) ∨ N = 0 := by
  intro d
  induction d with
  | zero =>
    intro t q hd hq
    obtain ⟨q, rfl⟩ : ∃ q', q = q' + 1 := ⟨q - 1, by omega⟩
    refine Or.inl ?_
    have c : (16 : Int32) < nI (t + N) := nI_lt (a := 16) (by omega) (by omega)
    rw [fX12_free_35, nI_add, if_pos c, fX12_free_67, nI_add, if_pos c]
    rfl
  | succ d ih =>
    intro t q hd hq
    obtain ⟨q, rfl⟩ : ∃ q', q = q' + 1 := ⟨q - 1, by omega⟩
    rcases ih (t + 1) q (by omega) (by omega) with e | e
    · refine Or.inl ?_
      rw [fX12_free_35, nI_add, freeF]
      by_cases c : 16 < t + N
      · have c' : (16 : Int32) < nI (t + N) := nI_lt (a := 16) (by omega) (by omega)
        rw [if_pos c', if_pos c, fX12_free_67, nI_add, if_pos c']
      · have c' : ¬ (16 : Int32) < nI (t + N) := nI_nlt (a := 16) (by omega) (by decide)
        rw [if_neg c', if_neg c, show (47 : Int32) = nI 47 from rfl, nI_add, gx_n (by omega) (by decide), ix_n (by omega), hT]
        by_cases c2 : (T >>> (nI t &&& 31)) &&& x = 0
        · rw [if_pos c2, if_pos c2, fX12_free_67, nI_add, if_neg c']
        · rw [if_neg c2, if_neg c2, lt_v, p1]; exact e
    · exact Or.inr e
theorem op_free (a1 a2 : Int32) : Op (fX11_free a1 a2) (fX12_free a1 a2) := by
  intro mc mr hR
  obtain ⟨n, hn⟩ := hR.2.1.1
  have hG := hR.1.1
  obtain ⟨t, en, te, e1, e16, ht, he⟩ := hn.2.2.1
  unfold fX11_free fX12_free
  have d2 : fX12_isIn (Int32.toInt64 a2) 1 16 mr = some (b2 (decide (nI 1 ≤ a2) && decide (a2 ≤ nI 16)), mr) := isIn_r mr rfl rfl rfl
  rw [isMachine_r, bd_s]
  rcases rngC a1 (lo := 0) (hi := 5) (by decide) (by decide) with e | ⟨⟨a, -, a5, rfl⟩, e⟩
  · rw [e, if_pos b2f]
    rcases rngF e with k | ⟨k, k2⟩
    · rw [if_pos (show a1 < 0 from k)]; exact ⟨-1, mc, mr, rfl, rfl, hR⟩
    · rw [if_neg (show ¬ a1 < 0 from k), if_pos (show 6 ≤ a1 from gt_ge (by decide) k2)]; exact ⟨-1, mc, mr, rfl, rfl, hR⟩
  rw [e, if_neg b2t, if_neg (nI_pos (by omega)), if_neg (show ¬ (6 : Int32) ≤ nI a from nI_ge (b := 6) (by omega) (by decide)), d2, bd_s]
  rcases rngC a2 (lo := 1) (hi := 16) (by decide) (by decide) with e | ⟨⟨N, N1, N16, rfl⟩, e⟩
  · rw [e, if_pos b2f]
    rcases rngF e with k | ⟨k, k2⟩
    · rw [if_pos (show a2 < 1 from k)]; exact ⟨-1, mc, mr, rfl, rfl, hR⟩
    · rw [if_neg (show ¬ a2 < 1 from k), if_neg (show ¬ a2 ≤ 16 from Int32.not_le.mpr k2)]; exact ⟨-1, mc, mr, rfl, rfl, hR⟩
  rw [e, if_neg b2t, if_neg (show ¬ nI N < 1 from nI_nlt (b := 1) (by omega) (by omega)), if_pos (show nI N ≤ 16 from nI_le (b := 16) N16 (by decide)), lt_v, lt_v, lt_v, lt_v, hG.1.2.1, ht]
  have h1 := free_c (mc := mc) (N := N) (T := mr 1 (47 + a)) (x := (1 : Int32) <<< (nI N &&& 31) - 1) (show a < 6 by omega) (hG.2.2.2.2 a (by omega)) N16 (17 - t) t FL (by omega) (by unfold FL; omega)
  have h2 := free_r (mr := mr) (N := N) (T := mr 1 (47 + a)) (x := (1 : Int32) <<< (nI N &&& 31) - 1) (show a < 6 by omega) rfl N16 (17 - t) t FL (by omega) (by unfold FL; omega)
  rcases h1 with h1 | h1
  · rcases h2 with h2 | h2
    · exact ⟨_, mc, mr, h1, h2, hR⟩
    · omega
  · omega
def tknF (s : Nat → Int32) (x : Int32) : Nat → Nat → Int32 → Int32
  | 0, _, w => w
  | d + 1, k, w => tknF s x d (k + 1) (w + ((s (47 + k) >>> (x &&& 31)) &&& 1))
theorem tkn_c {i : Nat} {m : Mm} {s : Nat → Int32} (hG : GymIs i m s) (x : Int32) : ∀ (d k q : Nat) (w : Int32), k + d = 6 → d < q → fX1_takenIn_4 i q x w (nI k) m = some (tknF s x d k w, m) := by
  intro d
  induction d with
  | zero =>
    intro k q w hd hq
    obtain ⟨q, rfl⟩ : ∃ q', q = q' + 1 := ⟨q - 1, by omega⟩
    rw [fX1_takenIn_4, if_pos (show (6 : Int32) ≤ nI k from nI_le (a := 6) (by omega) (by omega))]
    rfl
  | succ d ih =>
    intro k q w hd hq
    obtain ⟨q, rfl⟩ : ∃ q', q = q' + 1 := ⟨q - 1, by omega⟩
    rw [fX1_takenIn_4, if_neg (show ¬ (6 : Int32) ≤ nI k from nI_ge (b := 6) (by omega) (by decide)), gx_n (by omega) (by decide), ix_n (by omega), hG.2.2.2.2 k (by omega), lt_v, lt_v, p1, ih _ _ _ (by omega) (by omega)]
    rfl
theorem tkn_r {m : Mm} (x : Int32) : ∀ (d k q : Nat) (w : Int32), k + d = 6 → d < q → fX12_takenIn_4 q x w (nI k) m = some (tknF (m 1) x d k w, m) := by
  intro d
  induction d with
  | zero =>
    intro k q w hd hq
    obtain ⟨q, rfl⟩ : ∃ q', q = q' + 1 := ⟨q - 1, by omega⟩
    rw [fX12_takenIn_4, if_pos (show (6 : Int32) ≤ nI k from nI_le (a := 6) (by omega) (by omega))]
    rfl
  | succ d ih =>
    intro k q w hd hq
    obtain ⟨q, rfl⟩ : ∃ q', q = q' + 1 := ⟨q - 1, by omega⟩
    rw [fX12_takenIn_4, if_neg (show ¬ (6 : Int32) ≤ nI k from nI_ge (b := 6) (by omega) (by decide)), show (47 : Int32) = nI 47 from rfl, nI_add, gx_n (by omega) (by decide), ix_n (by omega), lt_v, lt_v, p1, ih _ _ _ (by omega) (by omega)]
    rfl
theorem takenIn_c {i : Nat} {m : Mm} {s : Nat → Int32} (hG : GymIs i m s) (x : Int32) : fX1_takenIn i x m = some (tknF s x 6 0 0, m) := tkn_c hG x 6 0 FL 0 (by omega) (by decide)
theorem takenIn_r (m : Mm) (x : Int32) : fX12_takenIn x m = some (tknF (m 1) x 6 0 0, m) := tkn_r x 6 0 FL 0 (by omega) (by decide)
theorem busy_b {mc mr : Mm} (hG : GymIs 0 mc (mr 1)) (y : Int32) : ∀ (d t q : Nat) (x : Int32), t + d = 16 → d < q → ∃ r, fX11_busiest_15 q y x (nI t) mc = some (r, mc) ∧ fX12_busiest_16 q y x (nI t) mr = some (r, mr) := by
  intro d
  induction d with
  | zero =>
    intro t q x hd hq
    obtain ⟨q, rfl⟩ : ∃ q', q = q' + 1 := ⟨q - 1, by omega⟩
    have c : (16 : Int32) ≤ nI t := nI_le (a := 16) (by omega) (by omega)
    rw [fX11_busiest_15, fX12_busiest_16, if_pos c, if_pos c, takenIn_c hG, takenIn_r, bd_s, bd_s]
    by_cases c0 : y = 0
    · rw [if_pos c0, if_pos c0]; exact ⟨_, rfl, rfl⟩
    · rw [if_neg c0, if_neg c0]; exact ⟨_, rfl, rfl⟩
  | succ d ih =>
    intro t q x hd hq
    obtain ⟨q, rfl⟩ : ∃ q', q = q' + 1 := ⟨q - 1, by omega⟩
    have c : ¬ (16 : Int32) ≤ nI t := nI_ge (b := 16) (by omega) (by decide)
    rw [fX11_busiest_15, fX12_busiest_16, if_neg c, if_neg c, takenIn_c hG, takenIn_r, bd_s, bd_s, takenIn_c hG, takenIn_r, bd_s, bd_s]
    by_cases c0 : tknF (mr 1) (nI t) 6 0 0 ≤ tknF (mr 1) x 6 0 0
    · rw [if_pos c0, if_pos c0, lt_v, lt_v, p1]; exact ih (t + 1) q x (by omega) (by omega)
    · rw [if_neg c0, if_neg c0, lt_v, lt_v, p1]; exact ih (t + 1) q _ (by omega) (by omega)
theorem op_busiest (a1 : Int32) : Op (fX11_busiest a1) (fX12_busiest a1) := by
  intro mc mr hR
  unfold fX11_busiest fX12_busiest
  have d2 : fX12_isIn (Int32.toInt64 a1) 0 1 mr = some (b2 (decide (nI 0 ≤ a1) && decide (a1 ≤ nI 1)), mr) := isIn_r mr rfl rfl rfl
  rw [d2, bd_s]
  rcases rngC a1 (lo := 0) (hi := 1) (by decide) (by decide) with e | ⟨⟨a, -, a5, rfl⟩, e⟩
  · rw [e, if_pos b2f]
    rcases rngF e with k | ⟨k, k2⟩
    · rw [if_pos (show a1 < 0 from k)]; exact ⟨-1, mc, mr, rfl, rfl, hR⟩
    · rw [if_neg (show ¬ a1 < 0 from k), if_neg (show ¬ a1 ≤ 1 from Int32.not_le.mpr k2)]; exact ⟨-1, mc, mr, rfl, rfl, hR⟩
  rw [e, if_neg b2t, if_neg (nI_pos (by omega)), if_pos (show nI a ≤ 1 from nI_le (b := 1) a5 (by decide))]
  obtain ⟨r, h1, h2⟩ := busy_b hR.1.1 (nI a) 15 1 FL 0 (by omega) (by decide)
  exact ⟨r, mc, mr, h1, h2, hR⟩
/-! feeding the tape -/
theorem feed_byte : ∀ (x : Int64) (i : Nat), i < 8 → ∃ b : Nat, b < 256 ∧ Int64.toInt32 ((x >>> (Int32.toInt64 (8 * nI i) &&& 63)) &&& 255) = nI b ∧
    (vp_nar .byte (Int8.toInt32 (Int32.toInt8 (Int64.toInt32 ((Int64.toUInt64 x) >>> ((Int32.toInt64 (8 * nI i)).toUInt64 &&& Int64.toUInt64 63)).toInt64)))) = (nI b).toInt8.toInt32 := by
  sorry
