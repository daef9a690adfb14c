/-! bits of ints and longs -/
theorem i_and2 (a b : Nat) (ha : a < 2 ^ 32) (hb : b < 2 ^ 32) : nI a &&& nI b = nI (a &&& b) := by
  rw [i_andX a ha, pk_tn hb]
theorem i_or2 (a b : Nat) (ha : a < 2 ^ 32) (hb : b < 2 ^ 32) : nI a ||| nI b = nI (a ||| b) := by
  apply Int32.toBitVec_inj.mp
  apply BitVec.eq_of_toNat_eq
  rw [Int32.toBitVec_or, BitVec.toNat_or, pk_tn ha, pk_tn hb, pk_tn (Nat.or_lt_two_pow ha hb)]
theorem sh_31 : ∀ k, k < 32 → ((nI k &&& 31).toBitVec.smod 32).toNat = k := by decide +kernel
theorem one_n : ∀ t, t < 31 → (1 : Int32) <<< (nI t &&& 31) = nI (2 ^ t) := by decide +kernel
theorem tb_mod (v k : Nat) : v / 2 ^ k % 2 = if v.testBit k then 1 else 0 := by
  rw [Nat.testBit_eq_decide_div_mod_eq]
  rcases (show v / 2 ^ k % 2 = 0 ∨ v / 2 ^ k % 2 = 1 by omega) with h | h <;> rw [h] <;> rfl
theorem bitG {v k : Nat} (hv : v < 2 ^ 31) (hk : k < 32) : ((nI v >>> (nI k &&& 31)) &&& 1) = (if v.testBit k then 1 else 0) := by
  rw [pk_shrN hv _ k (sh_31 k hk), show (1 : Int32) = nI 1 from rfl, i_and2 _ _ (Nat.lt_of_le_of_lt (Nat.div_le_self _ _) (by omega)) (by decide), Nat.and_one_is_mod, tb_mod]
  cases v.testBit k <;> rfl
theorem sh_64 : ∀ k, k < 64 → ((Int32.toInt64 (nI k) &&& 63).toBitVec.smod 64).toNat = k := by decide +kernel
theorem lone_n {k : Nat} (hk : k < 64) : (1 : Int64) <<< (Int32.toInt64 (nI k) &&& 63) = lN (2 ^ k) := by
  apply Int64.toBitVec_inj.mp
  apply BitVec.eq_of_toNat_eq
  rw [Int64.toBitVec_shiftLeft, lN_bv]
  show ((1 : BitVec 64) <<< ((Int32.toInt64 (nI k) &&& 63).toBitVec.smod 64).toNat).toNat = _
  rw [sh_64 k hk, BitVec.toNat_shiftLeft, BitVec.toNat_ofNat, Nat.shiftLeft_eq]
  show 1 % 2 ^ 64 * 2 ^ k % 2 ^ 64 = _
  rw [Nat.mod_eq_of_lt (show 1 < 2 ^ 64 by decide), Nat.one_mul]
theorem one_tb {i : Nat} (h : 0 < i) : (1 : Nat).testBit i = false := Nat.testBit_lt_two_pow (by
  have : 2 ^ 1 ≤ 2 ^ i := Nat.pow_le_pow_right (by decide) h
  omega)
theorem lbit {v k : Nat} (hv : v < 2 ^ 64) (hk : k < 64) : (lN v >>> (Int32.toInt64 (nI k) &&& 63)) &&& 1 = lN (if v.testBit k then 1 else 0) := by
  apply Int64.toBitVec_inj.mp
  rw [Int64.toBitVec_and, Int64.toBitVec_shiftRight]
  apply BitVec.eq_of_getLsbD_eq
  intro i hi
  rw [BitVec.getLsbD_and]
  show (((lN v).toBitVec.sshiftRight ((Int32.toInt64 (nI k) &&& 63).toBitVec.smod 64).toNat).getLsbD i && (BitVec.ofNat 64 1).getLsbD i) = _
  rw [sh_64 k hk, lN_bv, lN_bv, BitVec.getLsbD_ofNat, BitVec.getLsbD_ofNat]
  rcases Nat.eq_zero_or_pos i with h | h
  · subst h
    rw [BitVec.getLsbD_sshiftRight, if_pos (show k + 0 < 64 from hk), BitVec.getLsbD_ofNat, Nat.add_zero, decide_eq_true hk]
    cases v.testBit k <;> simp
  · rw [one_tb h, Bool.and_false, Bool.and_false]
    cases v.testBit k
    · rw [if_neg (by decide), Nat.zero_testBit, Bool.and_false]
    · rw [if_pos rfl, one_tb h, Bool.and_false]
/-! the bits of a number counted -/
def bcA (u : Nat) : Nat := u - (u / 2 &&& 1431655765)
def bcB (a : Nat) : Nat := (a &&& 858993459) + (a / 4 &&& 858993459)
def bcC (b : Nat) : Nat := (b + b / 16) &&& 252645135
def bcD (c : Nat) : Nat := c + c / 256
def bcE (d : Nat) : Nat := (d + d / 65536) &&& 63
def bcN (u : Nat) : Nat := bcE (bcD (bcC (bcB (bcA u))))
theorem bcP_n {u : Nat} (hu : u < 2 ^ 31) : bcP (nI u) = nI (bcN u) := by
  have hA : bcA u < 2 ^ 31 := by unfold bcA; omega
  have hB : bcB (bcA u) < 2 ^ 31 := by
    have h1 : bcA u &&& 858993459 ≤ 858993459 := Nat.and_le_right
    have h2 : bcA u / 4 &&& 858993459 ≤ 858993459 := Nat.and_le_right
    unfold bcB; omega
  have hC : bcC (bcB (bcA u)) ≤ 252645135 := Nat.and_le_right
  have e1 : nI u - (((Int32.toUInt32 (nI u) >>> (Int32.toUInt32 1 &&& Int32.toUInt32 31)).toInt32) &&& 1431655765) = nI (bcA u) := by
    rw [pk_ushrN (by omega) 1 1 (by decide), show (1431655765 : Int32) = nI 1431655765 from rfl, i_and2 _ _ (by omega) (by decide), pk_sub (Nat.le_trans Nat.and_le_left (by omega))]
    rfl
  have e2 : (nI (bcA u) &&& 858993459) + (((Int32.toUInt32 (nI (bcA u)) >>> (Int32.toUInt32 2 &&& Int32.toUInt32 31)).toInt32) &&& 858993459) = nI (bcB (bcA u)) := by
    rw [pk_ushrN (by omega) 2 2 (by decide), show (858993459 : Int32) = nI 858993459 from rfl, i_and2 _ _ (by omega) (by decide), i_and2 _ _ (by omega) (by decide), nI_add]
    rfl
  have e3 : (nI (bcB (bcA u)) + ((Int32.toUInt32 (nI (bcB (bcA u))) >>> (Int32.toUInt32 4 &&& Int32.toUInt32 31)).toInt32)) &&& 252645135 = nI (bcC (bcB (bcA u))) := by
    rw [pk_ushrN (by omega) 4 4 (by decide), show (252645135 : Int32) = nI 252645135 from rfl, nI_add, i_and2 _ _ (by omega) (by decide)]
    rfl
  have e4 : nI (bcC (bcB (bcA u))) + ((Int32.toUInt32 (nI (bcC (bcB (bcA u)))) >>> (Int32.toUInt32 8 &&& Int32.toUInt32 31)).toInt32) = nI (bcD (bcC (bcB (bcA u)))) := by
    rw [pk_ushrN (by omega) 8 8 (by decide), nI_add]
    rfl
  have hD : bcD (bcC (bcB (bcA u))) < 2 ^ 30 := by unfold bcD; omega
  have e5 : (nI (bcD (bcC (bcB (bcA u)))) + ((Int32.toUInt32 (nI (bcD (bcC (bcB (bcA u))))) >>> (Int32.toUInt32 16 &&& Int32.toUInt32 31)).toInt32)) &&& 63 = nI (bcN u) := by
    rw [pk_ushrN (by omega) 16 16 (by decide), show (63 : Int32) = nI 63 from rfl, nI_add, i_and2 _ _ (by omega) (by decide)]
    rfl
  unfold bcP
  simp only [e1, e2, e3, e4, e5]
def pop16 (u : Nat) : Nat := u % 2 + u / 2 % 2 + u / 4 % 2 + u / 8 % 2 + u / 16 % 2 + u / 32 % 2 + u / 64 % 2 + u / 128 % 2 + u / 256 % 2 + u / 512 % 2 + u / 1024 % 2 + u / 2048 % 2 + u / 4096 % 2 + u / 8192 % 2 + u / 16384 % 2 + u / 32768 % 2
theorem bc_0 : ∀ h, h < 8 → ∀ l, l < 256 → bcN (256 * (0 + h) + l) = pop16 (256 * (0 + h) + l) := by decide +kernel
theorem bc_1 : ∀ h, h < 8 → ∀ l, l < 256 → bcN (256 * (8 + h) + l) = pop16 (256 * (8 + h) + l) := by decide +kernel
theorem bc_2 : ∀ h, h < 8 → ∀ l, l < 256 → bcN (256 * (16 + h) + l) = pop16 (256 * (16 + h) + l) := by decide +kernel
theorem bc_3 : ∀ h, h < 8 → ∀ l, l < 256 → bcN (256 * (24 + h) + l) = pop16 (256 * (24 + h) + l) := by decide +kernel
theorem bc_4 : ∀ h, h < 8 → ∀ l, l < 256 → bcN (256 * (32 + h) + l) = pop16 (256 * (32 + h) + l) := by decide +kernel
theorem bc_5 : ∀ h, h < 8 → ∀ l, l < 256 → bcN (256 * (40 + h) + l) = pop16 (256 * (40 + h) + l) := by decide +kernel
theorem bc_6 : ∀ h, h < 8 → ∀ l, l < 256 → bcN (256 * (48 + h) + l) = pop16 (256 * (48 + h) + l) := by decide +kernel
theorem bc_7 : ∀ h, h < 8 → ∀ l, l < 256 → bcN (256 * (56 + h) + l) = pop16 (256 * (56 + h) + l) := by decide +kernel
theorem bc_8 : ∀ h, h < 8 → ∀ l, l < 256 → bcN (256 * (64 + h) + l) = pop16 (256 * (64 + h) + l) := by decide +kernel
theorem bc_9 : ∀ h, h < 8 → ∀ l, l < 256 → bcN (256 * (72 + h) + l) = pop16 (256 * (72 + h) + l) := by decide +kernel
theorem bc_10 : ∀ h, h < 8 → ∀ l, l < 256 → bcN (256 * (80 + h) + l) = pop16 (256 * (80 + h) + l) := by decide +kernel
theorem bc_11 : ∀ h, h < 8 → ∀ l, l < 256 → bcN (256 * (88 + h) + l) = pop16 (256 * (88 + h) + l) := by decide +kernel
theorem bc_12 : ∀ h, h < 8 → ∀ l, l < 256 → bcN (256 * (96 + h) + l) = pop16 (256 * (96 + h) + l) := by decide +kernel
theorem bc_13 : ∀ h, h < 8 → ∀ l, l < 256 → bcN (256 * (104 + h) + l) = pop16 (256 * (104 + h) + l) := by decide +kernel
theorem bc_14 : ∀ h, h < 8 → ∀ l, l < 256 → bcN (256 * (112 + h) + l) = pop16 (256 * (112 + h) + l) := by decide +kernel
theorem bc_15 : ∀ h, h < 8 → ∀ l, l < 256 → bcN (256 * (120 + h) + l) = pop16 (256 * (120 + h) + l) := by decide +kernel
theorem bc_16 : ∀ h, h < 8 → ∀ l, l < 256 → bcN (256 * (128 + h) + l) = pop16 (256 * (128 + h) + l) := by decide +kernel
theorem bc_17 : ∀ h, h < 8 → ∀ l, l < 256 → bcN (256 * (136 + h) + l) = pop16 (256 * (136 + h) + l) := by decide +kernel
theorem bc_18 : ∀ h, h < 8 → ∀ l, l < 256 → bcN (256 * (144 + h) + l) = pop16 (256 * (144 + h) + l) := by decide +kernel
theorem bc_19 : ∀ h, h < 8 → ∀ l, l < 256 → bcN (256 * (152 + h) + l) = pop16 (256 * (152 + h) + l) := by decide +kernel
theorem bc_20 : ∀ h, h < 8 → ∀ l, l < 256 → bcN (256 * (160 + h) + l) = pop16 (256 * (160 + h) + l) := by decide +kernel
theorem bc_21 : ∀ h, h < 8 → ∀ l, l < 256 → bcN (256 * (168 + h) + l) = pop16 (256 * (168 + h) + l) := by decide +kernel
theorem bc_22 : ∀ h, h < 8 → ∀ l, l < 256 → bcN (256 * (176 + h) + l) = pop16 (256 * (176 + h) + l) := by decide +kernel
theorem bc_23 : ∀ h, h < 8 → ∀ l, l < 256 → bcN (256 * (184 + h) + l) = pop16 (256 * (184 + h) + l) := by decide +kernel
theorem bc_24 : ∀ h, h < 8 → ∀ l, l < 256 → bcN (256 * (192 + h) + l) = pop16 (256 * (192 + h) + l) := by decide +kernel
theorem bc_25 : ∀ h, h < 8 → ∀ l, l < 256 → bcN (256 * (200 + h) + l) = pop16 (256 * (200 + h) + l) := by decide +kernel
theorem bc_26 : ∀ h, h < 8 → ∀ l, l < 256 → bcN (256 * (208 + h) + l) = pop16 (256 * (208 + h) + l) := by decide +kernel
theorem bc_27 : ∀ h, h < 8 → ∀ l, l < 256 → bcN (256 * (216 + h) + l) = pop16 (256 * (216 + h) + l) := by decide +kernel
theorem bc_28 : ∀ h, h < 8 → ∀ l, l < 256 → bcN (256 * (224 + h) + l) = pop16 (256 * (224 + h) + l) := by decide +kernel
theorem bc_29 : ∀ h, h < 8 → ∀ l, l < 256 → bcN (256 * (232 + h) + l) = pop16 (256 * (232 + h) + l) := by decide +kernel
theorem bc_30 : ∀ h, h < 8 → ∀ l, l < 256 → bcN (256 * (240 + h) + l) = pop16 (256 * (240 + h) + l) := by decide +kernel
theorem bc_31 : ∀ h, h < 8 → ∀ l, l < 256 → bcN (256 * (248 + h) + l) = pop16 (256 * (248 + h) + l) := by decide +kernel
theorem bc_all {u : Nat} (hu : u < 65536) : bcN u = pop16 u := by
  have key : ∀ j, (∀ h, h < 8 → ∀ l, l < 256 → bcN (256 * (j + h) + l) = pop16 (256 * (j + h) + l)) → j ≤ u / 256 → u / 256 < j + 8 → bcN u = pop16 u := fun j hj h1 h2 => by
    have := hj (u / 256 - j) (by omega) (u % 256) (by omega)
    rw [show 256 * (j + (u / 256 - j)) + u % 256 = u by omega] at this
    exact this
  by_cases c0 : u / 256 < 8
  · exact key 0 bc_0 (by omega) (by omega)
  by_cases c1 : u / 256 < 16
  · exact key 8 bc_1 (by omega) (by omega)
  by_cases c2 : u / 256 < 24
  · exact key 16 bc_2 (by omega) (by omega)
  by_cases c3 : u / 256 < 32
  · exact key 24 bc_3 (by omega) (by omega)
  by_cases c4 : u / 256 < 40
  · exact key 32 bc_4 (by omega) (by omega)
  by_cases c5 : u / 256 < 48
  · exact key 40 bc_5 (by omega) (by omega)
  by_cases c6 : u / 256 < 56
  · exact key 48 bc_6 (by omega) (by omega)
  by_cases c7 : u / 256 < 64
  · exact key 56 bc_7 (by omega) (by omega)
  by_cases c8 : u / 256 < 72
  · exact key 64 bc_8 (by omega) (by omega)
  by_cases c9 : u / 256 < 80
  · exact key 72 bc_9 (by omega) (by omega)
  by_cases c10 : u / 256 < 88
  · exact key 80 bc_10 (by omega) (by omega)
  by_cases c11 : u / 256 < 96
  · exact key 88 bc_11 (by omega) (by omega)
  by_cases c12 : u / 256 < 104
  · exact key 96 bc_12 (by omega) (by omega)
  by_cases c13 : u / 256 < 112
  · exact key 104 bc_13 (by omega) (by omega)
  by_cases c14 : u / 256 < 120
  · exact key 112 bc_14 (by omega) (by omega)
  by_cases c15 : u / 256 < 128
  · exact key 120 bc_15 (by omega) (by omega)
  by_cases c16 : u / 256 < 136
  · exact key 128 bc_16 (by omega) (by omega)
  by_cases c17 : u / 256 < 144
  · exact key 136 bc_17 (by omega) (by omega)
  by_cases c18 : u / 256 < 152
  · exact key 144 bc_18 (by omega) (by omega)
  by_cases c19 : u / 256 < 160
  · exact key 152 bc_19 (by omega) (by omega)
  by_cases c20 : u / 256 < 168
  · exact key 160 bc_20 (by omega) (by omega)
  by_cases c21 : u / 256 < 176
  · exact key 168 bc_21 (by omega) (by omega)
  by_cases c22 : u / 256 < 184
  · exact key 176 bc_22 (by omega) (by omega)
  by_cases c23 : u / 256 < 192
  · exact key 184 bc_23 (by omega) (by omega)
  by_cases c24 : u / 256 < 200
  · exact key 192 bc_24 (by omega) (by omega)
  by_cases c25 : u / 256 < 208
  · exact key 200 bc_25 (by omega) (by omega)
  by_cases c26 : u / 256 < 216
  · exact key 208 bc_26 (by omega) (by omega)
  by_cases c27 : u / 256 < 224
  · exact key 216 bc_27 (by omega) (by omega)
  by_cases c28 : u / 256 < 232
  · exact key 224 bc_28 (by omega) (by omega)
  by_cases c29 : u / 256 < 240
  · exact key 232 bc_29 (by omega) (by omega)
  by_cases c30 : u / 256 < 248
  · exact key 240 bc_30 (by omega) (by omega)
  by_cases c31 : u / 256 < 256
  · exact key 248 bc_31 (by omega) (by omega)
  omega
theorem cn_c (p : Nat → Prop) (b : Bool) (n : Nat) (h : p n ↔ b = true) : cn p (n + 1) = cn p n + (if b then 1 else 0) := by
  cases b
  · rw [cn_n (fun z => absurd (h.mp z) (by decide))]; rfl
  · rw [cn_s (h.mpr rfl)]; rfl
theorem pop_cn (u : Nat) : pop16 u = cn (fun t => u.testBit t = true) 16 := by
  have e : ∀ n, cn (fun t => u.testBit t = true) (n + 1) = cn (fun t => u.testBit t = true) n + u / 2 ^ n % 2 := fun n => by
    rw [cn_c (fun t => u.testBit t = true) (u.testBit n) n Iff.rfl, tb_mod]
  rw [e 15, e 14, e 13, e 12, e 11, e 10, e 9, e 8, e 7, e 6, e 5, e 4, e 3, e 2, e 1, e 0]
  show _ = 0 + u / 2 ^ 0 % 2 + _ + _ + _ + _ + _ + _ + _ + _ + _ + _ + _ + _ + _ + _ + _
  unfold pop16
  simp only [Nat.pow_zero, Nat.div_one, Nat.zero_add, Nat.reducePow, Nat.pow_one]
theorem bitCount_c {u : Nat} (hu : u < 65536) (m : Mm) : fJ6_bitCount_0f7a4 (nI u) m = some (nI (cn (fun t => u.testBit t = true) 16), m) := by
  rw [bcP_c, bcP_n (by omega), bc_all hu, pop_cn]
theorem cn_le (p : Nat → Prop) : ∀ n, cn p n ≤ n := by
  intro n
  induction n with
  | zero => exact Nat.le_refl _
  | succ n ih =>
    by_cases c : p n
    · rw [cn_s c]; omega
    · rw [cn_n c]; omega
/-- a group as bits -/
theorem mask_ex (p : Nat → Prop) : ∀ N : Nat, ∃ G, G < 2 ^ N ∧ ∀ i, G.testBit i = true ↔ (i < N ∧ p i) := by
  intro N
  induction N with
  | zero => exact ⟨0, by decide, fun i => ⟨fun h => absurd h (by rw [Nat.zero_testBit]; decide), fun h => by omega⟩⟩
  | succ N ih =>
    obtain ⟨G, hG, hb⟩ := ih
    by_cases c : p N
    · refine ⟨G ||| 2 ^ N, Nat.or_lt_two_pow (Nat.lt_of_lt_of_le hG (Nat.pow_le_pow_right (by decide) (by omega))) (Nat.pow_lt_pow_right (by decide) (by omega)), fun i => ?_⟩
      rw [Nat.testBit_or, Bool.or_eq_true, hb, Nat.testBit_two_pow, decide_eq_true_eq]
      constructor
      · rintro (⟨h1, h2⟩ | h)
        · exact ⟨by omega, h2⟩
        · subst h; exact ⟨by omega, c⟩
      · rintro ⟨h1, h2⟩
        by_cases e : N = i
        · exact Or.inr e
        · exact Or.inl ⟨by omega, h2⟩
    · refine ⟨G, Nat.lt_of_lt_of_le hG (Nat.pow_le_pow_right (by decide) (by omega)), fun i => ?_⟩
      rw [hb]
      constructor
      · rintro ⟨h1, h2⟩; exact ⟨by omega, h2⟩
      · rintro ⟨h1, h2⟩
        refine ⟨?_, h2⟩
        by_cases e : N = i
        · subst e; exact absurd h2 c
        · omega
theorem tb_lt {v i N : Nat} (hv : v < 2 ^ N) (h : v.testBit i = true) : i < N := by
  rcases Nat.lt_or_ge i N with c | c
  · exact c
  · rw [Nat.testBit_lt_two_pow (Nat.lt_of_lt_of_le hv (Nat.pow_le_pow_right (by decide) c))] at h
    exact absurd h (by decide)
theorem sub_6 : ∀ g, g < 64 → ∀ S, S < 64 → (decide (nI g &&& (nI S ^^^ (-1)) = 0)) = decide (g ||| S = S) := by decide +kernel
theorem sub_bits {g S : Nat} : g ||| S = S ↔ ∀ o, g.testBit o = true → S.testBit o = true := by
  constructor
  · intro h o ho
    rw [← h, Nat.testBit_or, ho]; rfl
  · intro h
    apply Nat.eq_of_testBit_eq
    intro o
    rw [Nat.testBit_or]
    cases c : g.testBit o
    · rfl
    · rw [h o c]; rfl
