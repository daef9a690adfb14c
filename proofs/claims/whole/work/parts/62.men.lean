/-! the men: how often one had sat there -/
def satF (s : Nat → Int32) (a p r : Nat) : Nat → Nat → Nat → Nat
  | 0, _, c => c
  | d + 1, i, c => satF s a p r d (i + 1) (if s (85 + 3 * r) < nI (a + i * p) then c else c + 1)
theorem sat_c {s : Nat → Int32} {a p n r : Nat} (ha : a < 16) (hp : p ≤ 4) (hn : n ≤ 4) {m : Mm} : ∀ (d i q c : Nat), i + d = n → d < q → fX4_sat_6 q (nI a) (nI p) (nI n) (s (85 + 3 * r)) (nI c) (nI i) m = some (nI (satF s a p r d i c), m) := by
  intro d
  induction d with
  | zero =>
    intro i q c hd hq
    obtain ⟨q, rfl⟩ : ∃ z, q = z + 1 := ⟨q - 1, by omega⟩
    rw [fX4_sat_6, if_pos (nI_le (by omega) (by omega))]
    rfl
  | succ d ih =>
    intro i q c hd hq
    obtain ⟨q, rfl⟩ : ∃ z, q = z + 1 := ⟨q - 1, by omega⟩
    rw [fX4_sat_6, if_neg (nI_ge (by omega) (by omega)), pk_mul, nI_add, satF]
    by_cases k : s (85 + 3 * r) < nI (a + i * p)
    · rw [if_pos k, if_pos k, lt_v, p1]; exact ih (i + 1) q c (by omega) (by omega)
    · rw [if_neg k, if_neg k, lt_v, lt_v, p1, p1]; exact ih (i + 1) q (c + 1) (by omega) (by omega)
def satS (s : Nat → Int32) (a p n r : Nat) : Int32 := nI (satF s a p r n 0 0)
def fitS (s : Nat → Int32) (a p n r : Nat) : Bool := decide (s (85 + 3 * r + 1) ≤ satS s a p n r) && decide (satS s a p n r ≤ s (85 + 3 * r + 2))
/-- all of R reports fit, one of them left out -/
def allS (s : Nat → Int32) (x : Int32) (a p n : Nat) : Nat → Nat → Bool
  | _, 0 => true
  | r, d + 1 => (decide (nI r = x) || fitS s a p n r) && allS s x a p n (r + 1) d
theorem sats_c {s : Nat → Int32} {a p n r : Nat} (ha : a < 16) (hp : p ≤ 4) (hn : n ≤ 4) {m : Mm} : fX4_sat (nI a) (nI p) (nI n) (s (85 + 3 * r)) m = some (satS s a p n r, m) := sat_c ha hp hn n 0 FL 0 (by omega) (by unfold FL; omega)
