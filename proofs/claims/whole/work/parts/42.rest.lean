theorem i_or (a b : Nat) : nI a ||| nI b = nI (a ||| b) := by
  apply Int32.toBitVec_inj.mp
  rw [Int32.toBitVec_or]
  show BitVec.ofNat 32 a ||| BitVec.ofNat 32 b = BitVec.ofNat 32 (a ||| b)
  apply BitVec.eq_of_toNat_eq
  rw [BitVec.toNat_or, BitVec.toNat_ofNat, BitVec.toNat_ofNat, BitVec.toNat_ofNat, Nat.or_mod_two_pow]
theorem i_and (a b : Nat) : nI a &&& nI b = nI (a &&& b) := by
  apply Int32.toBitVec_inj.mp
  rw [Int32.toBitVec_and]
  show BitVec.ofNat 32 a &&& BitVec.ofNat 32 b = BitVec.ofNat 32 (a &&& b)
  apply BitVec.eq_of_toNat_eq
  rw [BitVec.toNat_and, BitVec.toNat_ofNat, BitVec.toNat_ofNat, BitVec.toNat_ofNat, Nat.and_mod_two_pow]
theorem shl1 : ∀ r, r < 31 → (1 : Int32) <<< (nI r &&& 31) = nI (2 ^ r) := by decide +kernel
/-! which sets have nothing left -/
def spF (s : Nat → Int32) : Nat → Nat → Nat → Nat
  | _, 0, v => v
  | r, d + 1, v => spF s (r + 1) d (if s (8 + 5 * r + 4) = 0 then v ||| 2 ^ r else v)
def spN (s : Nat → Int32) : Nat := spF s 0 (ix (s 0)) 0
theorem spF_lt {s : Nat → Int32} : ∀ (d r v : Nat), v < 2 ^ r → spF s r d v < 2 ^ (r + d) := by
  intro d
  induction d with
  | zero => intro r v h; exact h
  | succ d ih =>
    intro r v h
    rw [spF, show r + (d + 1) = r + 1 + d by omega]
    apply ih
    have h1 : v < 2 ^ (r + 1) := Nat.lt_of_lt_of_le h (Nat.pow_le_pow_right (by decide) (by omega))
    split
    · exact Nat.or_lt_two_pow h1 (Nat.pow_lt_pow_right (by decide) (by omega))
    · exact h1
theorem spN_lt {s : Nat → Int32} {n : Nat} (h : GymOk s n) : spN s < 64 := by
  unfold spN
  rw [h.1, ix_n (by have := h.2.1; omega)]
  have h1 := spF_lt (s := s) n 0 0 (by decide)
  have h2 : 2 ^ (0 + n) ≤ 2 ^ 6 := Nat.pow_le_pow_right (by decide) (by have := h.2.1; omega)
  omega
theorem spent_rF {m : Mm} {n : Nat} (h0 : m 1 0 = nI n) (h6 : n ≤ 6) : ∀ (d r q v : Nat), r + d = n → d < q → fX12_noneLeft_4 q (nI v) (nI r) m = some (nI (spF (m 1) r d v), m) := by
  intro d
  induction d with
  | zero =>
    intro r q v hd hq
    obtain ⟨q, rfl⟩ : ∃ q', q = q' + 1 := ⟨q - 1, by omega⟩
    rw [fX12_noneLeft_4, h0, if_pos (nI_le (by omega) (by omega))]
    rfl
  | succ d ih =>
    intro r q v hd hq
    obtain ⟨q, rfl⟩ : ∃ q', q = q' + 1 := ⟨q - 1, by omega⟩
    rw [fX12_noneLeft_4, h0, if_neg (nI_ge (by omega) (by omega)), its4 (by omega), bd_s, spF]
    by_cases c : m 1 (8 + 5 * r + 4) = 0
    · rw [if_pos c, if_pos c, lt_v, lt_v, shl1 r (by omega), i_or, p1, ih _ _ _ (by omega) (by omega)]
    · rw [if_neg c, if_neg c, lt_v, lt_v, show (0 : Int32) = nI 0 from rfl, i_or, Nat.or_zero, p1, ih _ _ _ (by omega) (by omega)]
theorem spent_r {m : Mm} {n : Nat} (h : GymOk (m 1) n) : fX12_noneLeft m = some (nI (spN (m 1)), m) := by
  have := spent_rF h.1 h.2.1 n 0 FL 0 (by omega) (by have := h.2.1; unfold FL; omega)
  unfold fX12_noneLeft spN
  rw [show (0 : Int32) = nI 0 from rfl, this, h.1, ix_n (by have := h.2.1; omega)]
theorem spent_cF {i : Nat} {m : Mm} {s : Nat → Int32} (hG : GymIs i m s) {n : Nat} (h0 : s 0 = nI n) (h6 : n ≤ 6) : ∀ (d r q v : Nat), r + d = n → d < q → fX1_spent_4 i q (nI v) (nI r) m = some (nI (spF s r d v), m) := by
  intro d
  induction d with
  | zero =>
    intro r q v hd hq
    obtain ⟨q, rfl⟩ : ∃ q', q = q' + 1 := ⟨q - 1, by omega⟩
    rw [fX1_spent_4, hG.1.1, h0, if_pos (nI_le (by omega) (by omega))]
    rfl
  | succ d ih =>
    intro r q v hd hq
    obtain ⟨q, rfl⟩ : ∃ q', q = q' + 1 := ⟨q - 1, by omega⟩
    rw [fX1_spent_4, hG.1.1, h0, if_neg (nI_ge (by omega) (by omega)), gx_n (by omega) (by decide), ix_n (by omega), g_left hG (by omega), spF]
    by_cases c : s (8 + 5 * r + 4) = 0
    · rw [if_pos c, if_pos c, lt_v, lt_v, shl1 r (by omega), i_or, p1, ih _ _ _ (by omega) (by omega)]
    · rw [if_neg c, if_neg c, lt_v, p1, ih _ _ _ (by omega) (by omega)]
theorem spent_c {i : Nat} {m : Mm} {s : Nat → Int32} {n : Nat} (hG : GymIs i m s) (h : GymOk s n) : fX1_spent i m = some (nI (spN s), m) := by
  have := spent_cF hG h.1 h.2.1 n 0 FL 0 (by omega) (by have := h.2.1; unfold FL; omega)
  unfold fX1_spent spN
  rw [show (0 : Int32) = nI 0 from rfl, this, h.1, ix_n (by have := h.2.1; omega)]
/-! how many bits -/
def cnt6 (v : Nat) : Nat := v % 2 + v / 2 % 2 + v / 4 % 2 + v / 8 % 2 + v / 16 % 2 + v / 32 % 2
def bcP (a : Int32) : Int32 :=
  let x1 := a - (((Int32.toUInt32 a >>> (Int32.toUInt32 1 &&& Int32.toUInt32 31)).toInt32) &&& 1431655765)
  let x3 := (x1 &&& 858993459) + (((Int32.toUInt32 x1 >>> (Int32.toUInt32 2 &&& Int32.toUInt32 31)).toInt32) &&& 858993459)
  let x5 := (x3 + ((Int32.toUInt32 x3 >>> (Int32.toUInt32 4 &&& Int32.toUInt32 31)).toInt32)) &&& 252645135
  let x7 := x5 + ((Int32.toUInt32 x5 >>> (Int32.toUInt32 8 &&& Int32.toUInt32 31)).toInt32)
  let x9 := x7 + ((Int32.toUInt32 x7 >>> (Int32.toUInt32 16 &&& Int32.toUInt32 31)).toInt32)
  x9 &&& 63
theorem bcP_c (a : Int32) (m : Mm) : fJ6_bitCount_0f7a4 a m = some (bcP a, m) := rfl
theorem bcP_6 : ∀ v, v < 64 → bcP (nI v) = nI (cnt6 v) := by decide +kernel
def szP : Nat → Int32 → Int32 → Option Int32
  | 0, _, _ => none
  | n + 1, x, y => if y = 0 then some x else szP n (x + 1) (y &&& (y - 1))
theorem szP_r (m : Mm) : ∀ (n : Nat) (x y r : Int32), szP n x y = some r → ∀ k, fX12_size_4 (n + k) x y m = some (r, m) := by
  intro n
  induction n with
  | zero => intro x y r h; exact absurd h (by simp [szP])
  | succ n ih =>
    intro x y r h k
    rw [show n + 1 + k = n + k + 1 by omega, fX12_size_4]
    rw [szP] at h
    by_cases c : y = 0
    · rw [if_pos c] at h ⊢
      injection h with h
      rw [h]
    · rw [if_neg c] at h ⊢
      rw [lt_v, lt_v]
      exact ih _ _ _ h k
theorem szP_6 : ∀ v, v < 64 → szP 7 0 (nI v) = some (nI (cnt6 v)) := by decide +kernel
theorem size_r {v : Nat} (h : v < 64) (m : Mm) : fX12_size (nI v) m = some (nI (cnt6 v), m) := by
  unfold fX12_size
  rw [show FL = 7 + 4089 from rfl]
  exact szP_r m 7 0 (nI v) _ (szP_6 v h) 4089
theorem op_many (a1 : Int32) : Op (fX11_many a1) (fX12_many a1) := by
  intro mc mr hR
  obtain ⟨n, hn⟩ := hR.2.1.1
  have hG := hR.1.1
  unfold fX11_many fX12_many
  by_cases c0 : a1 = 0
  · rw [if_pos c0, if_pos c0, hG.1.1]; exact ⟨_, mc, mr, rfl, rfl, hR⟩
  rw [if_neg c0, if_neg c0]
  by_cases c1 : a1 = 1
  · rw [if_pos c1, if_pos c1, hR.1.2.1.1]; exact ⟨_, mc, mr, rfl, rfl, hR⟩
  rw [if_neg c1, if_neg c1]
  by_cases c2 : a1 = 2
  · rw [if_pos c2, if_pos c2, spent_c hG hn, spent_r hn, bd_s, bd_s, bcP_c, bcP_6 _ (spN_lt hn), size_r (spN_lt hn), bd_s, bd_s]; exact ⟨_, mc, mr, rfl, rfl, hR⟩
  rw [if_neg c2, if_neg c2]
  by_cases c3 : a1 = 3
  · rw [if_pos c3, if_pos c3, hR.1.2.2.1]; exact ⟨_, mc, mr, rfl, rfl, hR⟩
  rw [if_neg c3, if_neg c3]
  by_cases c4 : a1 = 4
  · rw [if_pos c4, if_pos c4, hR.2.2.2.2.1.1]; exact ⟨_, mc, mr, rfl, rfl, hR⟩
  rw [if_neg c4, if_neg c4]
  by_cases c5 : a1 = 5
  · rw [if_pos c5, if_pos c5, hR.2.2.2.1.1]; exact ⟨_, mc, mr, rfl, rfl, hR⟩
  rw [if_neg c5, if_neg c5]
  by_cases c6 : a1 = 6
  · rw [if_pos c6, if_pos c6, hR.2.2.2.2.2.2.2.1]; exact ⟨_, mc, mr, rfl, rfl, hR⟩
  rw [if_neg c6, if_neg c6]
  exact ⟨-1, mc, mr, rfl, rfl, hR⟩
theorem op_state (a1 : Int32) : Op (fX11_state a1) (fX12_state a1) := by
  intro mc mr hR
  obtain ⟨n, hn⟩ := hR.2.1.1
  have hG := hR.1.1
  unfold fX11_state fX12_state
  by_cases c0 : a1 = 0
  · subst c0
    rw [if_pos rfl, if_pos rfl, show (1 : Int32) + 0 = nI 1 by decide, gx_n (by decide) (by decide), ix_n (by decide), hG.1.2.1]; exact ⟨_, mc, mr, rfl, rfl, hR⟩
  rw [if_neg c0, if_neg c0]
  by_cases c1 : a1 = 1
  · subst c1
    rw [if_pos rfl, if_pos rfl, show (1 : Int32) + 1 = nI 2 by decide, gx_n (by decide) (by decide), ix_n (by decide), hG.1.2.2.1]; exact ⟨_, mc, mr, rfl, rfl, hR⟩
  rw [if_neg c1, if_neg c1]
  by_cases c2 : a1 = 2
  · subst c2
    rw [if_pos rfl, if_pos rfl, show (1 : Int32) + 2 = nI 3 by decide, gx_n (by decide) (by decide), ix_n (by decide), hG.1.2.2.2.1]; exact ⟨_, mc, mr, rfl, rfl, hR⟩
  rw [if_neg c2, if_neg c2]
  by_cases c3 : a1 = 3
  · rw [if_pos c3, if_pos c3, isOver_c hG, isOver_r, bd_s, bd_s]
    cases decide (mr 1 1 < mr 1 2)
    · rw [if_neg (show ¬ b2 (!false) = 0 by decide), if_neg (show ¬ b2 (!false) = 0 by decide)]; exact ⟨_, mc, mr, rfl, rfl, hR⟩
    · rw [if_pos (show b2 (!true) = 0 from rfl), if_pos (show b2 (!true) = 0 from rfl)]; exact ⟨_, mc, mr, rfl, rfl, hR⟩
  rw [if_neg c3, if_neg c3]
  by_cases c4 : a1 = 4
  · rw [if_pos c4, if_pos c4, spent_c hG hn, spent_r hn, bd_s, bd_s]; exact ⟨_, mc, mr, rfl, rfl, hR⟩
  rw [if_neg c4, if_neg c4]
  by_cases c5 : a1 = 5
  · subst c5
    rw [if_pos rfl, show (38 : Int32) + 5 - 5 = nI 38 by decide, gx_n (by decide) (by decide), ix_n (by decide), if_neg (show ¬ (5 : Int32) < 5 by decide), if_neg (show ¬ (8 : Int32) ≤ 5 by decide), show (5 : Int32) - 5 = nI 0 by decide, gx_n (by decide) (by decide), ix_n (by decide), hG.2.2.1 0 (by decide)]; exact ⟨_, mc, mr, rfl, rfl, hR⟩
  rw [if_neg c5]
  by_cases c6 : a1 = 6
  · subst c6
    rw [if_pos rfl, show (38 : Int32) + 6 - 5 = nI 39 by decide, gx_n (by decide) (by decide), ix_n (by decide), if_neg (show ¬ (6 : Int32) < 5 by decide), if_neg (show ¬ (8 : Int32) ≤ 6 by decide), show (6 : Int32) - 5 = nI 1 by decide, gx_n (by decide) (by decide), ix_n (by decide), hG.2.2.1 1 (by decide)]; exact ⟨_, mc, mr, rfl, rfl, hR⟩
  rw [if_neg c6]
  by_cases c7 : a1 = 7
  · subst c7
    rw [if_pos rfl, show (38 : Int32) + 7 - 5 = nI 40 by decide, gx_n (by decide) (by decide), ix_n (by decide), if_neg (show ¬ (7 : Int32) < 5 by decide), if_neg (show ¬ (8 : Int32) ≤ 7 by decide), show (7 : Int32) - 5 = nI 2 by decide, gx_n (by decide) (by decide), ix_n (by decide), hG.2.2.1 2 (by decide)]; exact ⟨_, mc, mr, rfl, rfl, hR⟩
  rw [if_neg c7]
  by_cases d : a1 < 5
  · rw [if_pos d]; exact ⟨-1, mc, mr, rfl, rfl, hR⟩
  rw [if_neg d]
  by_cases e : (8 : Int32) ≤ a1
  · rw [if_pos e]; exact ⟨-1, mc, mr, rfl, rfl, hR⟩
  exfalso
  have h7 : a1 ≤ nI 7 := by
    rw [i_le, show (8 : Int32).toInt = 8 from rfl] at e
    rw [i_le, show (nI 7).toInt = 7 from rfl]
    omega
  obtain ⟨v, v5, v7, rfl⟩ := rng (lo := 5) (by decide) (by decide) (Int32.not_lt.mp d) h7
  rcases (show v = 5 ∨ v = 6 ∨ v = 7 by omega) with rfl | rfl | rfl
  · exact c5 rfl
  · exact c6 rfl
  · exact c7 rfl
/-! an index below a count -/
theorem isIdx_r {c : Nat} (hc : c < 2 ^ 30) (x : Int32) (m : Mm) {a b d : Int64} (h1 : a = Int32.toInt64 x) (h2 : b = Int32.toInt64 (nI 0)) (h3 : d = Int32.toInt64 (nI c - 1)) : fX12_isIn a b d m = some (b2 (isS x c), m) := by
  rw [isIn_r m h1 h2 h3]
  unfold isS
  have e1 : decide (nI 0 ≤ x) = decide (¬ x < 0) := d_congr ⟨fun q => Int32.not_lt.mpr q, fun q => Int32.not_lt.mp q⟩
  have e2 : decide (x ≤ nI c - 1) = decide (x < nI c) := d_congr (by
    rw [i_le, i_lt, show (1 : Int32) = nI 1 from rfl, pk_sub_toInt (by omega) (by decide), toI (by omega)]
    omega)
  rw [e1, e2]
theorem isRow_b {mc mr : Mm} (hR : RR mc mr) (a1 a2 : Int32) : ∃ c, c ≤ 4 ∧ mr 0 26 = nI c ∧ fX11_isInRow a1 a2 mc = some (b2 (isS a1 c && (decide (nI 0 ≤ a2) && decide (a2 ≤ nI 2))), mc) ∧ fX12_isRow a1 a2 mr = some (b2 (isS a1 c && (decide (nI 0 ≤ a2) && decide (a2 ≤ nI 2))), mr) := by
  obtain ⟨h1, ⟨c, -, c4, hc⟩, -⟩ := hR.2.2.2.2.1
  refine ⟨c, c4, hc, ?_, ?_⟩
  · unfold fX11_isInRow isS
    rw [h1, hc]
    by_cases k1 : a1 < 0
    · rw [if_pos k1, decide_eq_false (fun q => q k1)]; rfl
    rw [if_neg k1, decide_eq_true k1]
    by_cases k2 : nI c ≤ a1
    · rw [if_pos k2, decide_eq_false (Int32.not_lt.mpr k2)]; rfl
    rw [if_neg k2, decide_eq_true (Int32.not_le.mp k2)]
    rcases rngC a2 (lo := 0) (hi := 2) (by decide) (by decide) with e | ⟨⟨v, -, v2, rfl⟩, e⟩
    · rw [e]
      rcases rngF e with k | ⟨k, k2⟩
      · rw [if_pos (show a2 < 0 from k)]; rfl
      · rw [if_neg (show ¬ a2 < 0 from k), if_pos (show 3 ≤ a2 from gt_ge (by decide) k2)]; rfl
    · rw [e, if_neg (nI_pos (by omega)), if_neg (show ¬ (3 : Int32) ≤ nI v from nI_ge (b := 3) (by omega) (by decide))]; rfl
  · unfold fX12_isRow
    have d2 : fX12_isIn (Int32.toInt64 a2) 0 2 mr = some (b2 (decide (nI 0 ≤ a2) && decide (a2 ≤ nI 2)), mr) := isIn_r mr rfl rfl rfl
    have d1 : fX12_isIn (Int32.toInt64 a1) 0 (Int32.toInt64 (nI c - 1)) mr = some (b2 (isS a1 c), mr) := isIdx_r (by omega) a1 mr rfl rfl rfl
    rw [hc, d1, bd_s]
    cases isS a1 c
    · rw [if_pos b2f]; rfl
    · rw [if_neg b2t, d2, bd_s]
      cases (decide (nI 0 ≤ a2) && decide (a2 ≤ nI 2))
      · rw [if_pos b2f]; rfl
      · rw [if_neg b2t]; rfl
theorem e_3 {a b : Nat} : (3 : Int32) * nI a + nI b = nI (3 * a + b) := by rw [show (3 : Int32) = nI 3 from rfl, pk_mul, nI_add]
theorem op_row (a1 a2 : Int32) : Op (fX11_row a1 a2) (fX12_row a1 a2) := by
  intro mc mr hR
  obtain ⟨c, c4, hc, q1, q2⟩ := isRow_b hR a1 a2
  unfold fX11_row fX12_row
  rw [q1, q2, bd_s, bd_s]
  rcases isS_cases a1 (n := c) (by omega) with e | ⟨e, k, hk, rfl⟩
  · rw [e, if_pos (show b2 (false && _) = 0 from rfl), if_pos (show b2 (false && _) = 0 from rfl)]; exact ⟨-9, mc, mr, rfl, rfl, hR⟩
  rw [e, Bool.true_and]
  rcases rngC a2 (lo := 0) (hi := 2) (by decide) (by decide) with e | ⟨⟨w, -, w2, rfl⟩, e⟩
  · rw [e, if_pos b2f, if_pos b2f]; exact ⟨-9, mc, mr, rfl, rfl, hR⟩
  rw [e, if_neg b2t, if_neg b2t, gx_n (by omega) (by decide), gx_n (by omega) (by decide), ix_n (by omega), ix_n (by omega), e_3, gx_n (by omega) (by decide), ix_n (by omega), hR.2.2.2.2.1.2.2 k (by omega) w (by omega)]
  exact ⟨_, mc, mr, rfl, rfl, hR⟩
theorem RR.rest {mc mr mc' mr' : Mm} (h : RR mc mr) (hr : Rest mc' mr') (c : ∀ q, 14 ≤ q → (q ≤ 23 ∨ (44 ≤ q ∧ q ≤ 47) ∨ (68 ≤ q ∧ q ≤ 78)) → mc' q = mc q) (r : mr' 1 = mr 1) : RR mc' mr' := by
  obtain ⟨⟨g1, g2, g3a, g3b⟩, o, -⟩ := h
  refine ⟨⟨?_, ?_, ?_, ?_⟩, by rw [r]; exact o, hr⟩
  · rw [r]; exact g1.of_eq (fun k hk k1 k2 => c _ (by unfold gp; omega) (by unfold gp; omega))
  · rw [r]; exact g2.of_eq (fun k hk => c _ (by unfold rp; omega) (by unfold rp; omega))
  · rw [r, c _ (by unfold mp; omega) (by unfold mp; omega)]; exact g3a
  · intro k hk
    rw [r, c _ (by unfold mp; omega) (by unfold mp; omega), c _ (by unfold mp; omega) (by unfold mp; omega), c _ (by unfold mp; omega) (by unfold mp; omega)]; exact g3b k hk
