/-! numbers: an int that is a small Nat -/
theorem gx_n {α : Type} {n N : Nat} {k : Option α} (h : n < N) (hN : N < 2 ^ 31) : gx (nI n) N k = k := by
  unfold gx
  rw [if_neg (nI_in h hN)]
theorem gx_l {α : Type} {i : Int32} {N : Nat} {k : Option α} (h : vp_in i N) : gx i N k = k := by
  unfold gx
  exact if_neg h
theorem ix_n {n : Nat} (h : n < 2 ^ 31) : ix (nI n) = n := nI_clamp h
theorem bd_s {α β : Type} {a : α} {m : Mm} {k : α → Mm → Option β} : bd (some (a, m)) k = k a m := rfl
theorem lt_v {α β : Type} {v : α} {k : α → Option β} : lt v k = k v := rfl
theorem gb_0 {α : Type} {k : Option α} : gb 0 k = k := by unfold gb; exact if_pos (Or.inl rfl)
theorem gb_1 {α : Type} {k : Option α} : gb 1 k = k := by unfold gb; exact if_pos (Or.inr rfl)
theorem gn_l {α : Type} {i n : Nat} {k : Option α} (h : i < n) : gn i n k = k := if_pos h
theorem gc_n {α : Type} {n N : Nat} {k : Option α} (h : n ≤ N) (hN : N < 2 ^ 31) : gc (nI n) N k = k := by
  unfold gc
  refine if_neg (fun q => ?_)
  rcases q with q | q
  · exact nI_pos (by omega) q
  · rw [nI_clamp (by omega)] at q
    omega
/-- an int between two Nats -/
def Bd (lo hi : Nat) (x : Int32) : Prop := ∃ v : Nat, lo ≤ v ∧ v ≤ hi ∧ x = nI v
theorem Bd.mono {a b c d : Nat} {x : Int32} (h : Bd a b x) (h1 : c ≤ a) (h2 : b ≤ d) : Bd c d x := by
  obtain ⟨v, v1, v2, v3⟩ := h
  exact ⟨v, by omega, by omega, v3⟩
theorem Bd.n {a b v : Nat} (h1 : a ≤ v) (h2 : v ≤ b) : Bd a b (nI v) := ⟨v, h1, h2, rfl⟩
theorem Bd.ix {a b : Nat} {x : Int32} (h : Bd a b x) (hb : b < 2 ^ 31) : x = nI (ix x) ∧ a ≤ ix x ∧ ix x ≤ b := by
  obtain ⟨v, v1, v2, rfl⟩ := h
  rw [ix_n (by omega)]
  exact ⟨rfl, v1, v2⟩
theorem bd_dec {lo hi : Nat} {x : Int32} {P : Int32 → Prop} (h : Bd lo hi x) (hp : ∀ v, v ≤ hi → lo ≤ v → P (nI v)) : P x := by
  obtain ⟨v, v1, v2, rfl⟩ := h
  exact hp v v2 v1
/-- of any int, how it stands to a range -/
theorem Bd.cases (x : Int32) {hi : Nat} (hb : hi + 1 < 2 ^ 31) : Bd 0 hi x ∨ x < 0 ∨ nI hi < x := by
  rcases pk_ix x (n := hi + 1) (by omega) with h | h | ⟨j, h, rfl⟩
  · exact Or.inr (Or.inl h)
  · refine Or.inr (Or.inr ?_)
    rw [Int32.lt_iff_toInt_lt, nI_toInt (by omega)]
    rw [Int32.le_iff_toInt_le, nI_toInt hb] at h
    omega
  · exact Or.inl ⟨j, Nat.zero_le _, by omega, rfl⟩
/-! memories -/
theorem up_app {m : Mm} {p k q j : Nat} {v : Int32} : up m p k v q j = if q = p then (if j = k then v else m q j) else m q j := by
  unfold up upA upd
  by_cases h : q = p
  · subst h; simp
  · simp [h]
theorem up_at {m : Mm} {p k : Nat} {v : Int32} : up m p k v p k = v := by simp [up_app]
theorem up_ne {m : Mm} {p k q j : Nat} {v : Int32} (h : q ≠ p ∨ j ≠ k) : up m p k v q j = m q j := by
  rw [up_app]
  rcases h with h | h
  · rw [if_neg h]
  · rw [if_neg h]; split <;> rfl
theorem up_row {m : Mm} {p k q : Nat} {v : Int32} (h : q ≠ p) : up m p k v q = m q := upA_ne h
theorem up_own {m : Mm} {p k : Nat} {v : Int32} : up m p k v p = upd (m p) k v := upA_same
/-- what a call may have changed -/
def Fr (P : Nat → Prop) (m m' : Mm) : Prop := ∀ q, ¬ P q → m' q = m q
theorem Fr.rf {P : Nat → Prop} {m : Mm} : Fr P m m := fun _ _ => rfl
theorem Fr.tr {P : Nat → Prop} {a b c : Mm} (h1 : Fr P a b) (h2 : Fr P b c) : Fr P a c := fun q hq => (h2 q hq).trans (h1 q hq)
theorem Fr.up {P : Nat → Prop} {a b : Mm} {p k : Nat} {v : Int32} (h : Fr P a b) (hp : P p) : Fr P a (up b p k v) := fun q hq => (up_row (fun e => hq (by rw [e]; exact hp))).trans (h q hq)
theorem Fr.upA {P : Nat → Prop} {a b : Mm} {p : Nat} {f : Nat → Int32} (h : Fr P a b) (hp : P p) : Fr P a (upA b p f) := fun q hq => (upA_ne (fun e => hq (by rw [e]; exact hp))).trans (h q hq)
theorem Fr.mono {P P' : Nat → Prop} {a b : Mm} (h : Fr P a b) (hp : ∀ q, P q → P' q) : Fr P' a b := fun q hq => h q (fun z => hq (hp q z))
def gymP (i : Nat) : Nat → Prop := fun q => gp i 0 ≤ q ∧ q ≤ gp i 12
theorem gymP_in {i k : Nat} (h : k < 13) : gymP i (gp i k) := by unfold gymP gp; omega
theorem gp_inj {i k i' k' : Nat} (h : k < 13) (h' : k' < 13) : gp i k = gp i' k' ↔ i = i' ∧ k = k' := by unfold gp; omega
theorem gp_ne {i k k' : Nat} (h : k ≠ k') : gp i k ≠ gp i k' := by unfold gp; omega
/-! the gym in a memory, told in the numbers of the reference's row -/
def GymIs (i : Nat) (m : Mm) (s : Nat → Int32) : Prop :=
  (m (gp i 0) 3 = s 0 ∧ m (gp i 0) 6 = s 1 ∧ m (gp i 0) 7 = s 2 ∧ m (gp i 0) 8 = s 3 ∧ m (gp i 0) 9 = s 4) ∧
  (∀ w, w < 5 → ∀ o, o < 6 → m (gp i (2 + w)) o = s (8 + 5 * o + w)) ∧
  (∀ u, u < 3 → m (gp i 10) u = s (38 + u)) ∧ (∀ k, k < 6 → m (gp i 8) k = s (41 + k)) ∧ (∀ k, k < 6 → m (gp i 9) k = s (47 + k))
/-- what one set is, in the row -/
def SetOk (s : Nat → Int32) (o : Nat) : Prop := Bd 1 5 (s (8 + 5 * o)) ∧ Bd 0 5 (s (8 + 5 * o + 1)) ∧ Bd 1 9 (s (8 + 5 * o + 2)) ∧ Bd 0 2 (s (8 + 5 * o + 3)) ∧ Bd 0 9 (s (8 + 5 * o + 4))
def GymOk (s : Nat → Int32) (n : Nat) : Prop :=
  s 0 = nI n ∧ n ≤ 6 ∧ (∃ t e : Nat, t ≤ e ∧ 1 ≤ e ∧ e ≤ 16 ∧ s 1 = nI t ∧ s 2 = nI e) ∧ (∀ o, o < n → SetOk s o) ∧
  (∀ u, u < 3 → Bd 0 9 (s (38 + u))) ∧ (∀ k, k < 6 → Bd 0 9 (s (41 + k))) ∧ (∀ k, k < 6 → Bd 0 65535 (s (47 + k)))
/-! indices of the reference's row -/
theorem e_one {o : Nat} : (8 : Int32) + 5 * nI o = nI (8 + 5 * o) := by
  rw [show (8 : Int32) = nI 8 from rfl, show (5 : Int32) = nI 5 from rfl, pk_mul, nI_add]
theorem e_rule {r : Nat} : (53 : Int32) + 4 * nI r = nI (53 + 4 * r) := by
  rw [show (53 : Int32) = nI 53 from rfl, show (4 : Int32) = nI 4 from rfl, pk_mul, nI_add]
theorem e_step {r : Nat} : (103 : Int32) + 3 * nI r = nI (103 + 3 * r) := by
  rw [show (103 : Int32) = nI 103 from rfl, show (3 : Int32) = nI 3 from rfl, pk_mul, nI_add]
theorem e_rep {r : Nat} : (85 : Int32) + 3 * nI r = nI (85 + 3 * r) := by
  rw [show (85 : Int32) = nI 85 from rfl, show (3 : Int32) = nI 3 from rfl, pk_mul, nI_add]
theorem p1 {n : Nat} : nI n + 1 = nI (n + 1) := nI_1 n
theorem p2 {n : Nat} : nI n + 2 = nI (n + 2) := by rw [show (2 : Int32) = nI 2 from rfl, nI_add]
theorem p3 {n : Nat} : nI n + 3 = nI (n + 3) := by rw [show (3 : Int32) = nI 3 from rfl, nI_add]
theorem p4 {n : Nat} : nI n + 4 = nI (n + 4) := by rw [show (4 : Int32) = nI 4 from rfl, nI_add]
theorem p0 {n : Nat} : nI n + 0 = nI n := by rw [show (0 : Int32) = nI 0 from rfl, nI_add]; rfl
theorem m1 {n : Nat} (h : 1 ≤ n) : nI n - 1 = nI (n - 1) := by rw [show (1 : Int32) = nI 1 from rfl, pk_sub h]
section ITS
variable {m : Mm} {o : Nat}
theorem its0 (h : o < 6) : fX12_its (nI o) 0 m = some (m 1 (8 + 5 * o), m) := by
  rw [fX12_its, e_one, p0, gx_n (by omega) (by decide), ix_n (by omega)]
theorem its1 (h : o < 6) : fX12_its (nI o) 1 m = some (m 1 (8 + 5 * o + 1), m) := by
  rw [fX12_its, e_one, p1, gx_n (by omega) (by decide), ix_n (by omega)]
theorem its2 (h : o < 6) : fX12_its (nI o) 2 m = some (m 1 (8 + 5 * o + 2), m) := by
  rw [fX12_its, e_one, p2, gx_n (by omega) (by decide), ix_n (by omega)]
theorem its3 (h : o < 6) : fX12_its (nI o) 3 m = some (m 1 (8 + 5 * o + 3), m) := by
  rw [fX12_its, e_one, p3, gx_n (by omega) (by decide), ix_n (by omega)]
theorem its4 (h : o < 6) : fX12_its (nI o) 4 m = some (m 1 (8 + 5 * o + 4), m) := by
  rw [fX12_its, e_one, p4, gx_n (by omega) (by decide), ix_n (by omega)]
end ITS
/-! MAY, GAINS, TIRES -/
abbrev b2 (b : Bool) : Int32 := if b then 1 else 0
def tk (taken t : Int32) : Bool := decide ((taken >>> (t &&& 31)) &&& 1 = 1)
def mayK (k : Nat) (taken t : Int32) : Bool :=
  if k = 1 then decide (0 < t) && !tk taken t else if k = 2 then decide (t - t / 2 * 2 = 1) || !tk taken t else if k = 3 then true
  else if k = 4 then !tk taken t || (decide (0 < t) && !tk taken (t - 1)) else if k = 5 then tk taken t else !tk taken t
def gainsK (k : Nat) (w t : Int32) : Int32 :=
  if k = 1 then w + 2 else if k = 2 then w - 1 else if k = 3 then (if t - t / 2 * 2 = 0 then w + 2 else w - 1) else if k = 5 then 2 * w else w
def tiresK (k : Nat) : Int32 := if k = 1 then 3 else if k = 2 then 1 else if k = 3 then 1 else if k = 4 then 2 else if k = 5 then 3 else 2
def mayS (s : Nat → Int32) (o : Nat) (t : Int32) : Bool := mayK (ix (s (8 + 5 * o))) (s (47 + ix (s (8 + 5 * o + 1)))) t
theorem isTaken_c {a t : Int32} {m : Mm} : fX6_isTaken a t m = some (b2 (tk a t), m) := by
  unfold fX6_isTaken tk
  by_cases h : (a >>> (t &&& 31)) &&& 1 = 1 <;> simp [h]
theorem b2_eq0 {b : Bool} : (b2 b = 0) = (b = false) := by cases b <;> simp [b2]
theorem v_may_c {k : Nat} {a t : Int32} {m : Mm} (h1 : 1 ≤ k) (h5 : k ≤ 5) (ht : ¬ t < 0) : v_may k a t m = some (b2 (mayK k a t), m) := by
  have ht0 : t = 0 ∨ 0 < t := by
    rw [Int32.lt_iff_toInt_lt] at ht ⊢
    by_cases e : t = 0
    · exact Or.inl e
    · refine Or.inr ?_
      have : t.toInt ≠ (0 : Int32).toInt := fun q => e (Int32.toInt_inj.mp q)
      omega
  have hle : (t ≤ 0) = (t = 0) := by
    apply propext
    rw [Int32.le_iff_toInt_le]
    rw [Int32.lt_iff_toInt_lt] at ht
    constructor
    · intro h
      exact Int32.toInt_inj.mp (by omega)
    · rintro rfl
      exact Int.le_refl _
  rcases (show k = 1 ∨ k = 2 ∨ k = 3 ∨ k = 4 ∨ k = 5 by omega) with rfl | rfl | rfl | rfl | rfl
  · rcases ht0 with rfl | h
    · simp [v_may, mayK, fX0_may]
    · have hn : ¬ t = 0 := fun e => by subst e; exact absurd h (by decide)
      cases hb : tk a t <;> simp [v_may, mayK, fX0_may, fX6_may, isTaken_c, bd_s, hn, h, hb, b2]
  · by_cases h : t - t / 2 * 2 = 1 <;> cases hb : tk a t <;> simp [v_may, mayK, fX9_may, fX6_may, isTaken_c, bd_s, h, hb, b2]
  · simp [v_may, mayK, fX5_may]
  · rcases ht0 with rfl | h
    · cases hb : tk a 0 <;> simp [v_may, mayK, fX2_may, fX6_may, isTaken_c, bd_s, hb, b2]
    · have hn : ¬ t ≤ 0 := by rw [hle]; exact fun e => by subst e; exact absurd h (by decide)
      cases hb : tk a t <;> cases hc : tk a (t - 1) <;> simp [v_may, mayK, fX2_may, fX6_may, isTaken_c, bd_s, hn, h, hb, hc, b2]
  · cases hb : tk a t <;> simp [v_may, mayK, fX10_may, isTaken_c, bd_s, hb, b2, gb_0, gb_1]
theorem v_gains_c {k : Nat} {w t : Int32} {m : Mm} (h1 : 1 ≤ k) (h5 : k ≤ 5) : v_gains k w t m = some (gainsK k w t, m) := by
  have e3 : w - 1 + 3 = w + 2 := by rw [Int32.sub_eq_add_neg, Int32.add_assoc]; rfl
  have e5 : w * 2 = 2 * w := Int32.mul_comm _ _
  rcases (show k = 1 ∨ k = 2 ∨ k = 3 ∨ k = 4 ∨ k = 5 by omega) with rfl | rfl | rfl | rfl | rfl
  · simp [v_gains, gainsK, fX0_gains, fX6_gains, bd_s]
  · simp [v_gains, gainsK, fX9_gains, fX6_gains, bd_s]
  · by_cases h : t - t / 2 * 2 = 0 <;> simp [v_gains, gainsK, fX5_gains, fX9_gains, fX6_gains, bd_s, h, e3]
  · simp [v_gains, gainsK, fX6_gains, bd_s]
  · simp [v_gains, gainsK, fX10_gains, fX6_gains, bd_s, e5]
theorem v_tires_c {k : Nat} {m : Mm} (h1 : 1 ≤ k) (h5 : k ≤ 5) : v_tires k m = some (tiresK k, m) := by
  rcases (show k = 1 ∨ k = 2 ∨ k = 3 ∨ k = 4 ∨ k = 5 by omega) with rfl | rfl | rfl | rfl | rfl <;> simp [v_tires, tiresK, fX0_tires, fX6_tires, fX9_tires, fX10_tires, bd_s]
