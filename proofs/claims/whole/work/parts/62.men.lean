/-! the men: how often one had sat there -/
def satF (s : Nat → Int32) (a p r : Nat) : Nat → Nat → Nat → Nat
  | 0, _, c => c
  | d + 1, i, c => satF s a p r d (i + 1) (if s (85 + 3 * r) < nI (a + i * p) then c else c + 1)
theorem sat_c {s : Nat → Int32} {a p n r : Nat} (ha : a < 16) (hp : p ≤ 4) (hn : n ≤ 4) {m : Mm} : ∀ (d i q c : Nat), i + d = n → d < q → fX4_sat_6 q (nI a) (nI p) (nI n) (s (85 + 3 * r)) (nI c) (nI i) m = some (nI (satF s a p r d i c), m) := by
  intro d
  induction d with
  | zero =>
    intro i q c hd hq
    obtain ⟨q, rfl⟩ : ∃ z, q = z + 1 := ⟨q - 1, by omega⟩
    rw [fX4_sat_6, if_pos (nI_le (by omega) (by omega))]
    rfl
  | succ d ih =>
    intro i q c hd hq
    obtain ⟨q, rfl⟩ : ∃ z, q = z + 1 := ⟨q - 1, by omega⟩
    rw [fX4_sat_6, if_neg (nI_ge (by omega) (by omega)), pk_mul, nI_add, satF]
    by_cases k : s (85 + 3 * r) < nI (a + i * p)
    · rw [if_pos k, if_pos k, lt_v, p1]; exact ih (i + 1) q c (by omega) (by omega)
    · rw [if_neg k, if_neg k, lt_v, lt_v, p1, p1]; exact ih (i + 1) q (c + 1) (by omega) (by omega)
def satS (s : Nat → Int32) (a p n r : Nat) : Int32 := nI (satF s a p r n 0 0)
def fitS (s : Nat → Int32) (a p n r : Nat) : Bool := decide (s (85 + 3 * r + 1) ≤ satS s a p n r) && decide (satS s a p n r ≤ s (85 + 3 * r + 2))
/-- all of R reports fit, one of them left out -/
def allS (s : Nat → Int32) (x : Int32) (a p n : Nat) : Nat → Nat → Bool
  | _, 0 => true
  | r, d + 1 => (decide (nI r = x) || fitS s a p n r) && allS s x a p n (r + 1) d
theorem sats_c {s : Nat → Int32} {a p n r : Nat} (ha : a < 16) (hp : p ≤ 4) (hn : n ≤ 4) {m : Mm} : fX4_sat (nI a) (nI p) (nI n) (s (85 + 3 * r)) m = some (satS s a p n r, m) := sat_c ha hp hn n 0 FL 0 (by omega) (by unfold FL; omega)
theorem b2_and1 (f : Bool) : b2 f &&& 1 = b2 f := by cases f <;> decide
theorem b2_and0 (f : Bool) : b2 f &&& 0 = b2 false := by cases f <;> decide
theorem fit54_r {K : Int32 → Int32 → Int32 → Int32 → Int32 → Int32 → Mm → Option (Int32 × Mm)} {a p n r : Nat} {x2 : Int32} {f : Bool} {m : Mm} (ha : a < 16) (hp : p ≤ 4) (hn : n ≤ 4) (hr : r < 6) :
    ∀ (d i q c : Nat), i + d = n → d < q → fX12_isFit_54 K q x2 (nI a) (nI p) (nI n) (b2 f) (nI r) (nI (85 + 3 * r)) (nI c) (nI i) m =
      K x2 (nI a) (nI p) (nI n) (b2 (f && (decide (nI r = x2) || (decide (m 1 (85 + 3 * r + 1) ≤ nI (satF (m 1) a p r d i c)) && decide (nI (satF (m 1) a p r d i c) ≤ m 1 (85 + 3 * r + 2)))))) (nI (r + 1)) m := by
  intro d
  induction d with
  | zero =>
    intro i q c hd hq
    obtain ⟨q, rfl⟩ : ∃ z, q = z + 1 := ⟨q - 1, by omega⟩
    rw [fX12_isFit_54, if_pos (nI_le (by omega) (by omega))]
    have h131 : fX12_isFit_131 K x2 (nI a) (nI p) (nI n) (nI r) (b2 f) m = K x2 (nI a) (nI p) (nI n) (b2 f) (nI (r + 1)) m := by
      unfold fX12_isFit_131
      rw [lt_v, lt_v, b2_and1, p1]
    by_cases k : nI r = x2
    · rw [if_pos k, h131, decide_eq_true k, Bool.true_or, Bool.and_true]
    · rw [if_neg k, decide_eq_false k, Bool.false_or, p1, p2, gx_n (by omega) (by decide), gx_n (by omega) (by decide), ix_n (by omega), ix_n (by omega), isIn_r m rfl rfl rfl, bd_s]
      show _ = K x2 (nI a) (nI p) (nI n) (b2 (f && (decide (m 1 (85 + 3 * r + 1) ≤ nI c) && decide (nI c ≤ m 1 (85 + 3 * r + 2))))) (nI (r + 1)) m
      cases (decide (m 1 (85 + 3 * r + 1) ≤ nI c) && decide (nI c ≤ m 1 (85 + 3 * r + 2)))
      · rw [if_pos b2f, lt_v, lt_v, b2_and0, Bool.and_false, p1]
      · rw [if_neg b2t, h131, Bool.and_true]
  | succ d ih =>
    intro i q c hd hq
    obtain ⟨q, rfl⟩ : ∃ z, q = z + 1 := ⟨q - 1, by omega⟩
    rw [fX12_isFit_54, if_neg (nI_ge (by omega) (by omega)), gx_n (by omega) (by decide), ix_n (by omega), pk_mul, nI_add, satF]
    by_cases k : m 1 (85 + 3 * r) < nI (a + i * p)
    · rw [if_pos k, if_pos k, lt_v, lt_v, p1, p0]; exact ih (i + 1) q c (by omega) (by omega)
    · rw [if_neg k, if_neg k, lt_v, lt_v, p1, p1]; exact ih (i + 1) q (c + 1) (by omega) (by omega)
theorem fit27_r {a p n R : Nat} {x2 : Int32} {m : Mm} (ha : a < 16) (hp : p ≤ 4) (hn : n ≤ 4) (h6 : m 1 6 = nI R) (hR : R ≤ 6) : ∀ (d r q : Nat) (f : Bool), r + d = R → d < q → fX12_isFit_27 q x2 (nI a) (nI p) (nI n) (b2 f) (nI r) m = some (b2 (f && allS (m 1) x2 a p n r d), m) := by
  intro d
  induction d with
  | zero =>
    intro r q f hd hq
    obtain ⟨q, rfl⟩ : ∃ z, q = z + 1 := ⟨q - 1, by omega⟩
    rw [fX12_isFit_27, h6, if_pos (nI_le (by omega) (by omega)), show allS (m 1) x2 a p n r 0 = true from rfl, Bool.and_true]
    cases f
    · rw [show b2 false = 0 from rfl, gb_0]
    · rw [show b2 true = 1 from rfl, gb_1]
  | succ d ih =>
    intro r q f hd hq
    obtain ⟨q, rfl⟩ : ∃ z, q = z + 1 := ⟨q - 1, by omega⟩
    have h54 := fit54_r (K := fun x2 x3 x4 x5 x6 x7 m => fX12_isFit_27 q x2 x3 x4 x5 x6 x7 m) (x2 := x2) (f := f) (m := m) ha hp hn (show r < 6 by omega) n 0 FL 0 (by omega) (by unfold FL; omega)
    have h54' : fX12_isFit_54 (fun x2 x3 x4 x5 x6 x7 m => fX12_isFit_27 q x2 x3 x4 x5 x6 x7 m) FL x2 (nI a) (nI p) (nI n) (b2 f) (nI r) (nI (85 + 3 * r)) 0 0 m = _ := h54
    rw [fX12_isFit_27, h6, if_neg (nI_ge (by omega) (by omega)), e_rep, lt_v, h54']
    show fX12_isFit_27 q x2 (nI a) (nI p) (nI n) (b2 (f && (decide (nI r = x2) || fitS (m 1) a p n r))) (nI (r + 1)) m = _
    rw [ih (r + 1) q _ (by omega) (by omega), allS, Bool.and_assoc]
