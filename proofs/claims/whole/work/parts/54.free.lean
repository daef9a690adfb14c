def freeF (T : Int32) (N : Nat) (x : Int32) : Nat → Nat → Int32
  | 0, _ => -3
  | d + 1, t => if 16 < t + N then -3 else if (T >>> (nI t &&& 31)) &&& x = 0 then nI t else freeF T N x d (t + 1)
theorem free_c {mc : Mm} {a N : Nat} {T x : Int32} (ha : a < 6) (hT : mc (gp 0 9) a = T) (hN : N ≤ 16) : ∀ (d t q : Nat), t + d = 17 → d < q → fX11_free_38 q (nI a) (nI N) x (nI t) mc = some (freeF T N x d t, mc) ∨ N = 0 := by
  intro d
  induction d with
  | zero =>
    intro t q hd hq
    obtain ⟨q, rfl⟩ : ∃ q', q = q' + 1 := ⟨q - 1, by omega⟩
    refine Or.inl ?_
    rw [fX11_free_38, nI_add, if_pos (show (16 : Int32) < nI (t + N) from nI_lt (a := 16) (by omega) (by omega))]
    rfl
  | succ d ih =>
    intro t q hd hq
    obtain ⟨q, rfl⟩ : ∃ q', q = q' + 1 := ⟨q - 1, by omega⟩
    rcases ih (t + 1) q (by omega) (by omega) with e | e
    · refine Or.inl ?_
      rw [fX11_free_38, nI_add, freeF]
      by_cases c : 16 < t + N
      · rw [if_pos (show (16 : Int32) < nI (t + N) from nI_lt (a := 16) (by omega) (by omega)), if_pos c]
      · rw [if_neg (show ¬ (16 : Int32) < nI (t + N) from nI_nlt (a := 16) (by omega) (by decide)), if_neg c, gx_n ha (by decide), ix_n (by omega), hT]
        by_cases c2 : (T >>> (nI t &&& 31)) &&& x = 0
        · rw [if_pos c2, if_pos c2]
        · rw [if_neg c2, if_neg c2, lt_v, p1]; exact e
    · exact Or.inr e
theorem free_r {mr : Mm} {a N : Nat} {T x : Int32} (ha : a < 6) (hT : mr 1 (47 + a) = T) (hN : N ≤ 16) : ∀ (d t q : Nat), t + d = 17 → d < q → fX12_free_35 q (nI a) (nI N) x (nI t) mr = some (freeF T N x d t, mr) ∨ N = 0 := by
  intro d
  induction d with
  | zero =>
    intro t q hd hq
    obtain ⟨q, rfl⟩ : ∃ q', q = q' + 1 := ⟨q - 1, by omega⟩
    refine Or.inl ?_
    have c : (16 : Int32) < nI (t + N) := nI_lt (a := 16) (by omega) (by omega)
    rw [fX12_free_35, nI_add, if_pos c, fX12_free_67, nI_add, if_pos c]
    rfl
  | succ d ih =>
    intro t q hd hq
    obtain ⟨q, rfl⟩ : ∃ q', q = q' + 1 := ⟨q - 1, by omega⟩
    rcases ih (t + 1) q (by omega) (by omega) with e | e
    · refine Or.inl ?_
      rw [fX12_free_35, nI_add, freeF]
      by_cases c : 16 < t + N
      · have c' : (16 : Int32) < nI (t + N) := nI_lt (a := 16) (by omega) (by omega)
        rw [if_pos c', if_pos c, fX12_free_67, nI_add, if_pos c']
      · have c' : ¬ (16 : Int32) < nI (t + N) := nI_nlt (a := 16) (by omega) (by decide)
        rw [if_neg c', if_neg c, show (47 : Int32) = nI 47 from rfl, nI_add, gx_n (by omega) (by decide), ix_n (by omega), hT]
        by_cases c2 : (T >>> (nI t &&& 31)) &&& x = 0
        · rw [if_pos c2, if_pos c2, fX12_free_67, nI_add, if_neg c']
        · rw [if_neg c2, if_neg c2, lt_v, p1]; exact e
    · exact Or.inr e
theorem op_free (a1 a2 : Int32) : Op (fX11_free a1 a2) (fX12_free a1 a2) := by
  intro mc mr hR
  obtain ⟨n, hn⟩ := hR.2.1.1
  have hG := hR.1.1
  obtain ⟨t, en, te, e1, e16, ht, he⟩ := hn.2.2.1
  unfold fX11_free fX12_free
  have d2 : fX12_isIn (Int32.toInt64 a2) 1 16 mr = some (b2 (decide (nI 1 ≤ a2) && decide (a2 ≤ nI 16)), mr) := isIn_r mr rfl rfl rfl
  rw [isMachine_r, bd_s]
  rcases rngC a1 (lo := 0) (hi := 5) (by decide) (by decide) with e | ⟨⟨a, -, a5, rfl⟩, e⟩
  · rw [e, if_pos b2f]
    rcases rngF e with k | ⟨k, k2⟩
    · rw [if_pos (show a1 < 0 from k)]; exact ⟨-1, mc, mr, rfl, rfl, hR⟩
    · rw [if_neg (show ¬ a1 < 0 from k), if_pos (show 6 ≤ a1 from gt_ge (by decide) k2)]; exact ⟨-1, mc, mr, rfl, rfl, hR⟩
  rw [e, if_neg b2t, if_neg (nI_pos (by omega)), if_neg (show ¬ (6 : Int32) ≤ nI a from nI_ge (b := 6) (by omega) (by decide)), d2, bd_s]
  rcases rngC a2 (lo := 1) (hi := 16) (by decide) (by decide) with e | ⟨⟨N, N1, N16, rfl⟩, e⟩
  · rw [e, if_pos b2f]
    rcases rngF e with k | ⟨k, k2⟩
    · rw [if_pos (show a2 < 1 from k)]; exact ⟨-1, mc, mr, rfl, rfl, hR⟩
    · rw [if_neg (show ¬ a2 < 1 from k), if_neg (show ¬ a2 ≤ 16 from Int32.not_le.mpr k2)]; exact ⟨-1, mc, mr, rfl, rfl, hR⟩
  rw [e, if_neg b2t, if_neg (show ¬ nI N < 1 from nI_nlt (b := 1) (by omega) (by omega)), if_pos (show nI N ≤ 16 from nI_le (b := 16) N16 (by decide)), lt_v, lt_v, lt_v, lt_v, hG.1.2.1, ht]
  have h1 := free_c (mc := mc) (N := N) (T := mr 1 (47 + a)) (x := (1 : Int32) <<< (nI N &&& 31) - 1) (show a < 6 by omega) (hG.2.2.2.2 a (by omega)) N16 (17 - t) t FL (by omega) (by unfold FL; omega)
  have h2 := free_r (mr := mr) (N := N) (T := mr 1 (47 + a)) (x := (1 : Int32) <<< (nI N &&& 31) - 1) (show a < 6 by omega) rfl N16 (17 - t) t FL (by omega) (by unfold FL; omega)
  rcases h1 with h1 | h1
  · rcases h2 with h2 | h2
    · exact ⟨_, mc, mr, h1, h2, hR⟩
    · omega
  · omega
def tknF (s : Nat → Int32) (x : Int32) : Nat → Nat → Int32 → Int32
  | 0, _, w => w
  | d + 1, k, w => tknF s x d (k + 1) (w + ((s (47 + k) >>> (x &&& 31)) &&& 1))
theorem tkn_c {i : Nat} {m : Mm} {s : Nat → Int32} (hG : GymIs i m s) (x : Int32) : ∀ (d k q : Nat) (w : Int32), k + d = 6 → d < q → fX1_takenIn_4 i q x w (nI k) m = some (tknF s x d k w, m) := by
  intro d
  induction d with
  | zero =>
    intro k q w hd hq
    obtain ⟨q, rfl⟩ : ∃ q', q = q' + 1 := ⟨q - 1, by omega⟩
    rw [fX1_takenIn_4, if_pos (show (6 : Int32) ≤ nI k from nI_le (a := 6) (by omega) (by omega))]
    rfl
  | succ d ih =>
    intro k q w hd hq
    obtain ⟨q, rfl⟩ : ∃ q', q = q' + 1 := ⟨q - 1, by omega⟩
    rw [fX1_takenIn_4, if_neg (show ¬ (6 : Int32) ≤ nI k from nI_ge (b := 6) (by omega) (by decide)), gx_n (by omega) (by decide), ix_n (by omega), hG.2.2.2.2 k (by omega), lt_v, lt_v, p1, ih _ _ _ (by omega) (by omega)]
    rfl
theorem tkn_r {m : Mm} (x : Int32) : ∀ (d k q : Nat) (w : Int32), k + d = 6 → d < q → fX12_takenIn_4 q x w (nI k) m = some (tknF (m 1) x d k w, m) := by
  intro d
  induction d with
  | zero =>
    intro k q w hd hq
    obtain ⟨q, rfl⟩ : ∃ q', q = q' + 1 := ⟨q - 1, by omega⟩
    rw [fX12_takenIn_4, if_pos (show (6 : Int32) ≤ nI k from nI_le (a := 6) (by omega) (by omega))]
    rfl
  | succ d ih =>
    intro k q w hd hq
    obtain ⟨q, rfl⟩ : ∃ q', q = q' + 1 := ⟨q - 1, by omega⟩
    rw [fX12_takenIn_4, if_neg (show ¬ (6 : Int32) ≤ nI k from nI_ge (b := 6) (by omega) (by decide)), show (47 : Int32) = nI 47 from rfl, nI_add, gx_n (by omega) (by decide), ix_n (by omega), lt_v, lt_v, p1, ih _ _ _ (by omega) (by omega)]
    rfl
theorem takenIn_c {i : Nat} {m : Mm} {s : Nat → Int32} (hG : GymIs i m s) (x : Int32) : fX1_takenIn i x m = some (tknF s x 6 0 0, m) := tkn_c hG x 6 0 FL 0 (by omega) (by decide)
theorem takenIn_r (m : Mm) (x : Int32) : fX12_takenIn x m = some (tknF (m 1) x 6 0 0, m) := tkn_r x 6 0 FL 0 (by omega) (by decide)
theorem busy_b {mc mr : Mm} (hG : GymIs 0 mc (mr 1)) (y : Int32) : ∀ (d t q : Nat) (x : Int32), t + d = 16 → d < q → ∃ r, fX11_busiest_15 q y x (nI t) mc = some (r, mc) ∧ fX12_busiest_16 q y x (nI t) mr = some (r, mr) := by
  intro d
  induction d with
  | zero =>
    intro t q x hd hq
    obtain ⟨q, rfl⟩ : ∃ q', q = q' + 1 := ⟨q - 1, by omega⟩
    have c : (16 : Int32) ≤ nI t := nI_le (a := 16) (by omega) (by omega)
    rw [fX11_busiest_15, fX12_busiest_16, if_pos c, if_pos c, takenIn_c hG, takenIn_r, bd_s, bd_s]
    by_cases c0 : y = 0
    · rw [if_pos c0, if_pos c0]; exact ⟨_, rfl, rfl⟩
    · rw [if_neg c0, if_neg c0]; exact ⟨_, rfl, rfl⟩
  | succ d ih =>
    intro t q x hd hq
    obtain ⟨q, rfl⟩ : ∃ q', q = q' + 1 := ⟨q - 1, by omega⟩
    have c : ¬ (16 : Int32) ≤ nI t := nI_ge (b := 16) (by omega) (by decide)
    rw [fX11_busiest_15, fX12_busiest_16, if_neg c, if_neg c, takenIn_c hG, takenIn_r, bd_s, bd_s, takenIn_c hG, takenIn_r, bd_s, bd_s]
    by_cases c0 : tknF (mr 1) (nI t) 6 0 0 ≤ tknF (mr 1) x 6 0 0
    · rw [if_pos c0, if_pos c0, lt_v, lt_v, p1]; exact ih (t + 1) q x (by omega) (by omega)
    · rw [if_neg c0, if_neg c0, lt_v, lt_v, p1]; exact ih (t + 1) q _ (by omega) (by omega)
theorem op_busiest (a1 : Int32) : Op (fX11_busiest a1) (fX12_busiest a1) := by
  intro mc mr hR
  unfold fX11_busiest fX12_busiest
  have d2 : fX12_isIn (Int32.toInt64 a1) 0 1 mr = some (b2 (decide (nI 0 ≤ a1) && decide (a1 ≤ nI 1)), mr) := isIn_r mr rfl rfl rfl
  rw [d2, bd_s]
  rcases rngC a1 (lo := 0) (hi := 1) (by decide) (by decide) with e | ⟨⟨a, -, a5, rfl⟩, e⟩
  · rw [e, if_pos b2f]
    rcases rngF e with k | ⟨k, k2⟩
    · rw [if_pos (show a1 < 0 from k)]; exact ⟨-1, mc, mr, rfl, rfl, hR⟩
    · rw [if_neg (show ¬ a1 < 0 from k), if_neg (show ¬ a1 ≤ 1 from Int32.not_le.mpr k2)]; exact ⟨-1, mc, mr, rfl, rfl, hR⟩
  rw [e, if_neg b2t, if_neg (nI_pos (by omega)), if_pos (show nI a ≤ 1 from nI_le (b := 1) a5 (by decide))]
  obtain ⟨r, h1, h2⟩ := busy_b hR.1.1 (nI a) 15 1 FL 0 (by omega) (by decide)
  exact ⟨r, mc, mr, h1, h2, hR⟩
/-! feeding the tape -/
theorem ssh_low (X : BitVec 64) (k : Nat) (hk : k ≤ 56) : (X.sshiftRight k).toNat % 256 = X.toNat / 2 ^ k % 256 := by
  apply Nat.eq_of_testBit_eq
  intro j
  rw [show 256 = 2 ^ 8 from rfl, Nat.testBit_mod_two_pow, Nat.testBit_mod_two_pow, Nat.testBit_div_two_pow]
  by_cases hj : j < 8
  · have h := BitVec.getLsbD_sshiftRight (x := X) (s := k) (i := j)
    rw [show (X.sshiftRight k).toNat.testBit j = (X.sshiftRight k).getLsbD j from rfl, h, show X.toNat.testBit (j + k) = X.getLsbD (j + k) from rfl]
    simp [hj, show ¬ 64 ≤ j by omega, show k + j < 64 by omega, Nat.add_comm]
  · simp [hj]
theorem tw32 (z : Int64) : z.toInt32.toBitVec = z.toBitVec.setWidth 32 := by
  rw [Int64.toBitVec_toInt32]
  exact BitVec.signExtend_eq_setWidth_of_le _ (by decide)
theorem tw8 (z : Int32) : z.toInt8.toBitVec = z.toBitVec.setWidth 8 := by
  rw [Int32.toBitVec_toInt8]
  exact BitVec.signExtend_eq_setWidth_of_le _ (by decide)
theorem sh_s : ∀ i, i < 8 → ((Int32.toInt64 (8 * nI i) &&& 63).toBitVec.smod 64).toNat = 8 * i := by decide +kernel
theorem sh_u : ∀ i, i < 8 → ((((Int32.toInt64 (8 * nI i)).toUInt64 &&& Int64.toUInt64 63)).toBitVec % 64).toNat = 8 * i := by decide +kernel
theorem feed_byte (x : Int64) {i : Nat} (hi : i < 8) : ∃ b : Nat, b < 256 ∧ Int64.toInt32 ((x >>> (Int32.toInt64 (8 * nI i) &&& 63)) &&& 255) = nI b ∧
    (vp_nar .byte (Int8.toInt32 (Int32.toInt8 (Int64.toInt32 ((Int64.toUInt64 x) >>> ((Int32.toInt64 (8 * nI i)).toUInt64 &&& Int64.toUInt64 63)).toInt64)))) = (nI b).toInt8.toInt32 := by
  refine ⟨x.toBitVec.toNat / 2 ^ (8 * i) % 256, Nat.mod_lt _ (by decide), ?_, ?_⟩
  · apply Int32.toBitVec_inj.mp
    apply BitVec.eq_of_toNat_eq
    rw [pk_tn (by have := Nat.mod_lt (x.toBitVec.toNat / 2 ^ (8 * i)) (show 0 < 256 by decide); omega), ← ssh_low _ _ (by omega)]
    rw [tw32, Int64.toBitVec_and, BitVec.toNat_setWidth, BitVec.toNat_and, Int64.toBitVec_shiftRight]
    show ((x.toBitVec.sshiftRight ((Int32.toInt64 (8 * nI i) &&& 63).toBitVec.smod 64).toNat).toNat &&& 255) % 2 ^ 32 = _
    rw [sh_s i hi, show (255 : Nat) = 2 ^ 8 - 1 from rfl, Nat.and_two_pow_sub_one_eq_mod]
    have := Nat.mod_lt (x.toBitVec.sshiftRight (8 * i)).toNat (show 0 < 2 ^ 8 by decide)
    omega
  · rw [pk_vb]
    congr 1
    apply Int8.toBitVec_inj.mp
    apply BitVec.eq_of_toNat_eq
    rw [tw8, tw8, tw32, BitVec.toNat_setWidth, BitVec.toNat_setWidth, BitVec.toNat_setWidth]
    show ((Int64.toUInt64 x) >>> ((Int32.toInt64 (8 * nI i)).toUInt64 &&& Int64.toUInt64 63)).toBitVec.toNat % 2 ^ 32 % 2 ^ 8 = _
    rw [ UInt64.toBitVec_shiftRight, pk_tn (by have := Nat.mod_lt (x.toBitVec.toNat / 2 ^ (8 * i)) (show 0 < 256 by decide); omega)]
    show (x.toBitVec >>> ((((Int32.toInt64 (8 * nI i)).toUInt64 &&& Int64.toUInt64 63)).toBitVec % 64).toNat).toNat % 2 ^ 32 % 2 ^ 8 = _
    rw [sh_u i hi, BitVec.toNat_ushiftRight, Nat.shiftRight_eq_div_pow]
    omega
theorem feed_c {x : Int64} {T N : Nat} (hTN : T + N ≤ 200) (hN : N ≤ 8) : ∀ (d i q : Nat) (m : Mm), i + d = N → d < q → m 0 1 = nI T → ∃ f, fX11_feed_31 q x (nI N) (nI i) m = some (nI (T + N), up (upA m 1 f) 0 1 (nI (T + N))) ∧
    (∀ k, (k < T + i ∨ T + N ≤ k) → f k = m 1 k) ∧ ∀ j, i ≤ j → j < N → ∃ b : Nat, b < 256 ∧ Int64.toInt32 ((x >>> (Int32.toInt64 (8 * nI j) &&& 63)) &&& 255) = nI b ∧ f (T + j) = (nI b).toInt8.toInt32 := by
  intro d
  induction d with
  | zero =>
    intro i q m hd hq h1
    obtain ⟨q, rfl⟩ : ∃ q', q = q' + 1 := ⟨q - 1, by omega⟩
    refine ⟨m 1, ?_, fun k _ => rfl, fun j h1 h2 => by omega⟩
    rw [fX11_feed_31, if_pos (nI_le (by omega) (by omega)), lt_v, up_at, h1, nI_add, upA_self]
  | succ d ih =>
    intro i q m hd hq h1
    obtain ⟨q, rfl⟩ : ∃ q', q = q' + 1 := ⟨q - 1, by omega⟩
    obtain ⟨b, hb, e1, e2⟩ := feed_byte x (show i < 8 by omega)
    rw [fX11_feed_31, if_neg (nI_ge (by omega) (by omega)), h1, nI_add, gx_n (by omega) (by decide), ix_n (by omega), lt_v, lt_v, p1, e2]
    obtain ⟨f, f1, f2, f3⟩ := ih (i + 1) q (up m 1 (T + i) ((nI b).toInt8.toInt32)) (by omega) (by omega) (by rw [up_row (by decide)]; exact h1)
    refine ⟨f, ?_, fun k hk => ?_, fun j j1 j2 => ?_⟩
    · rw [f1]
      show some (_, up (upA (upA m 1 _) 1 f) 0 1 _) = _
      rw [upA_upA]
    · rw [f2 k (by omega), up_ne (Or.inr (by omega))]
    · by_cases e : j = i
      · subst e
        exact ⟨b, hb, e1, by rw [f2 _ (by omega), up_at]⟩
      · exact f3 j (by omega) j2
theorem feed_r {x : Int64} {T N : Nat} (hTN : T + N ≤ 200) (hN : N ≤ 8) : ∀ (d i q : Nat) (m : Mm), i + d = N → d < q → m 0 5 = nI (T + i) → ∃ f g, fX12_feed_32 q x (nI N) (nI i) m = some (nI (T + N), upA (upA m 4 f) 0 g) ∧ g 5 = nI (T + N) ∧ (∀ k, k ≠ 5 → g k = m 0 k) ∧
    (∀ k, (k < T + i ∨ T + N ≤ k) → f k = m 4 k) ∧ ∀ j, i ≤ j → j < N → f (T + j) = Int64.toInt32 ((x >>> (Int32.toInt64 (8 * nI j) &&& 63)) &&& 255) := by
  intro d
  induction d with
  | zero =>
    intro i q m hd hq h1
    obtain ⟨q, rfl⟩ : ∃ q', q = q' + 1 := ⟨q - 1, by omega⟩
    have e : i = N := by omega
    subst e
    refine ⟨m 4, m 0, ?_, h1, fun k _ => rfl, fun k _ => rfl, fun j h1 h2 => by omega⟩
    rw [fX12_feed_32, if_pos (nI_le (by omega) (by omega)), upA_self, upA_self, h1]
  | succ d ih =>
    intro i q m hd hq h1
    obtain ⟨q, rfl⟩ : ∃ q', q = q' + 1 := ⟨q - 1, by omega⟩
    have s04 : (0 : Nat) ≠ 4 := by decide
    rw [fX12_feed_32, if_neg (nI_ge (by omega) (by omega)), h1, gx_n (by omega) (by decide), ix_n (by omega), lt_v, up_row s04, h1, p1 (n := T + i), lt_v, lt_v, p1 (n := i)]
    obtain ⟨f, g, f1, g1, g2, f2, f3⟩ := ih (i + 1) q (up (up m 4 (T + i) (Int64.toInt32 ((x >>> (Int32.toInt64 (8 * nI i) &&& 63)) &&& 255))) 0 5 (nI (T + i + 1))) (by omega) (by omega) up_at
    refine ⟨f, g, ?_, g1, fun k hk => ?_, fun k hk => ?_, fun j j1 j2 => ?_⟩
    · rw [f1]
      congr 2
      funext p
      by_cases p0 : p = 0
      · subst p0; rw [upA_same, upA_same]
      · rw [upA_ne p0, upA_ne p0]
        by_cases p4 : p = 4
        · subst p4; rw [upA_same, upA_same]
        · rw [upA_ne p4, upA_ne p4, up_row p0, up_row p4]
    · rw [g2 k hk, up_ne (Or.inr hk), up_row s04]
    · rw [f2 k (by omega), up_row (by decide), up_ne (Or.inr (by omega))]
    · by_cases e : j = i
      · subst e
        rw [f2 _ (by omega), up_row (by decide), up_at]
      · exact f3 j (by omega) j2
theorem op_feed (x : Int64) (a2 : Int32) : Op (fX11_feed x a2) (fX12_feed x a2) := by
  intro mc mr hR
  obtain ⟨t1, ⟨T, -, T200, hT⟩, t3⟩ := hR.2.2.2.1
  unfold fX11_feed fX12_feed
  have d2 : fX12_isIn (Int32.toInt64 a2) 1 8 mr = some (b2 (decide (nI 1 ≤ a2) && decide (a2 ≤ nI 8)), mr) := isIn_r mr rfl rfl rfl
  rw [d2, bd_s]
  rcases rngC a2 (lo := 1) (hi := 8) (by decide) (by decide) with e | ⟨⟨N, N1, N8, rfl⟩, e⟩
  · rw [e, if_pos b2f]
    rcases rngF e with k | ⟨k, k2⟩
    · rw [if_pos (show a2 < 1 from k)]; exact ⟨-1, mc, mr, rfl, rfl, hR⟩
    · rw [if_neg (show ¬ a2 < 1 from k), if_neg (show ¬ a2 ≤ 8 from Int32.not_le.mpr k2)]; exact ⟨-1, mc, mr, rfl, rfl, hR⟩
  rw [e, if_neg b2t, if_neg (show ¬ nI N < 1 from nI_nlt (b := 1) (by omega) (by omega)), if_pos (show nI N ≤ 8 from nI_le (b := 8) N8 (by decide)), t1, hT, nI_add]
  by_cases c : T + N ≤ 200
  · have c' : nI (T + N) ≤ 200 := nI_le (b := 200) c (by decide)
    rw [if_pos c', if_pos c']
    obtain ⟨f, q1, f2, f3⟩ := feed_c (x := x) c N8 N 0 FL mc (by omega) (by unfold FL; omega) (t1.trans hT)
    obtain ⟨f', g, q2, g1, g2, f2', f3'⟩ := feed_r (x := x) c N8 N 0 FL mr (by omega) (by unfold FL; omega) hT
    refine ⟨nI (T + N), _, _, q1, q2, ?_⟩
    obtain ⟨k, -, w, s, sh, y⟩ := hR.2.2
    have cq : ∀ q, q ≠ 0 → q ≠ 1 → (up (upA mc 1 f) 0 1 (nI (T + N))) q = mc q := fun q h1 h2 => (up_row h1).trans (upA_ne h2)
    have c0 : ∀ k, k ≠ 1 → (up (upA mc 1 f) 0 1 (nI (T + N))) 0 k = mc 0 k := fun k hk => (up_ne (Or.inr hk)).trans (congrFun (upA_ne (by decide)) k)
    have rq : ∀ q, q ≠ 0 → q ≠ 4 → (upA (upA mr 4 f') 0 g) q = mr q := fun q h1 h2 => (upA_ne h1).trans (upA_ne h2)
    have r0 : ∀ k, k ≠ 5 → (upA (upA mr 4 f') 0 g) 0 k = mr 0 k := fun k hk => by rw [upA_same]; exact g2 k hk
    refine hR.rest ⟨k.of (c0 _ (by decide)) (r0 _ (by decide)) (rq _ (by decide) (by decide)) (fun q hq => cq q (by omega) (by omega)), ⟨?_, ?_, fun j hj => ?_⟩, w.of (c0 _ (by decide)) (r0 _ (by decide)) (fun q h1 h2 => cq q (by omega) (by omega)) (rq _ (by decide) (by decide)),
      s.of (fun q h1 h2 => cq q (by omega) (by omega)) (rq _ (by decide) (by decide)) (rq _ (by decide) (by decide)) (rq _ (by decide) (by decide)), sh.of (fun q h1 h2 => cq q (by omega) (by omega)) (rq _ (by decide) (by decide)) (rq _ (by decide) (by decide)) (rq _ (by decide) (by decide)),
      y.of (by rw [cq 52 (by decide) (by decide)]) (r0 _ (by decide)) (cq _ (by decide) (by decide)) (rq _ (by decide) (by decide))⟩ (fun q h1 h2 => cq q (by omega) (by omega)) (rq _ (by decide) (by decide))
    · rw [up_at, upA_same, g1]
    · rw [upA_same, g1]; exact ⟨T + N, by omega, c, rfl⟩
    · rw [upA_same, g1, ix_n (by omega)] at hj
      rw [upA_ne (show 4 ≠ 0 by decide), upA_same, up_row (show 1 ≠ 0 by decide), upA_same]
      by_cases hjT : j < T
      · rw [f2 j (by omega), f2' j (by omega)]
        exact t3 j (by rw [hT, ix_n (by omega)]; exact hjT)
      · obtain ⟨b, hb, e1, e2⟩ := f3 (j - T) (by omega) (by omega)
        have e3 := f3' (j - T) (by omega) (by omega)
        rw [show T + (j - T) = j by omega] at e2 e3
        exact ⟨b, hb, by rw [e3, e1], e2⟩
  · have c' : ¬ nI (T + N) ≤ 200 := nI_ge (b := T + N) (a := 200) (by omega) (by omega)
    rw [if_neg c', if_neg c']
    exact ⟨-2, mc, mr, rfl, rfl, hR⟩
