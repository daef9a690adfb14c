-- the layouts, by program (wip/whole/gen/mklay.py)
/-! small rows -/
theorem ifp {α : Type} {c : Prop} [Decidable c] {a b : Option α} {r : α} (hc : c) (h : (if c then a else b) = some r) : a = some r := (if_pos hc).symm.trans h
theorem ifn {α : Type} {c : Prop} [Decidable c] {a b : Option α} {r : α} (hc : ¬ c) (h : (if c then a else b) = some r) : b = some r := (if_neg hc).symm.trans h
def gn {α : Type} (i n : Nat) (k : Option α) : Option α := if i < n then k else none
theorem gn_some {α : Type} {i n : Nat} {k : Option α} {r : α} (h : gn i n k = some r) : i < n ∧ k = some r := by
  unfold gn at h
  by_cases c : i < n
  · rw [if_pos c] at h; exact ⟨c, h⟩
  · rw [if_neg c] at h; cases h
def gc {α : Type} (i : Int32) (n : Nat) (k : Option α) : Option α := if i < 0 ∨ n < i.toNatClampNeg then none else k
theorem gc_some {α : Type} {i : Int32} {n : Nat} {k : Option α} {r : α} (h : gc i n k = some r) : (¬ i < 0 ∧ i.toNatClampNeg ≤ n) ∧ k = some r := by
  unfold gc at h
  by_cases c : i < 0 ∨ n < i.toNatClampNeg
  · rw [if_pos c] at h; cases h
  · rw [if_neg c] at h; exact ⟨⟨fun q => c (Or.inl q), Nat.not_lt.mp fun q => c (Or.inr q)⟩, h⟩
theorem gcc {i : Int32} {n : Nat} (h : decide (¬ i < 0 ∧ i.toNatClampNeg ≤ n) = true) : ¬ i < 0 ∧ i.toNatClampNeg ≤ n := of_decide_eq_true h
def cpy (f g : Nat → Int32) (n : Nat) : Nat → Int32 := fun k => if k < n then f k else g k
theorem cpy_va {f g : Nat → Int32} {n : Nat} : va_cpy f g 0 0 n = cpy f g n := by
  funext k
  unfold va_cpy cpy
  by_cases h : k < n
  · rw [if_pos ⟨Nat.zero_le _, by omega⟩, if_pos h]; congr 1; omega
  · rw [if_neg (fun q => h (by omega)), if_neg h]
theorem aq {g : Nat → Nat} {A : Nat → Nat} {n j q' : Nat} {i : Int32} (hj : i.toNatClampNeg = j) (hlt : j < n) (hg : g j = q') : (fun j => if j < n then some (A (g j)) else none) i.toNatClampNeg = some (A q') := by
  subst hj
  subst hg
  exact if_pos hlt
def FL : Nat := 4096
theorem ixc_0 : (0 : Int32).toNatClampNeg = 0 := by decide
theorem ixc_1 : (1 : Int32).toNatClampNeg = 1 := by decide
theorem ixc_2 : (2 : Int32).toNatClampNeg = 2 := by decide
theorem ixc_3 : (3 : Int32).toNatClampNeg = 3 := by decide
theorem ixc_4 : (4 : Int32).toNatClampNeg = 4 := by decide
theorem ixc_5 : (5 : Int32).toNatClampNeg = 5 := by decide
theorem ixc_6 : (6 : Int32).toNatClampNeg = 6 := by decide
theorem ixc_7 : (7 : Int32).toNatClampNeg = 7 := by decide
theorem ixc_8 : (8 : Int32).toNatClampNeg = 8 := by decide
theorem ixc_9 : (9 : Int32).toNatClampNeg = 9 := by decide
theorem ixc_10 : (10 : Int32).toNatClampNeg = 10 := by decide
theorem ixc_11 : (11 : Int32).toNatClampNeg = 11 := by decide
theorem ixc_12 : (12 : Int32).toNatClampNeg = 12 := by decide
theorem ixc_13 : (13 : Int32).toNatClampNeg = 13 := by decide
theorem ixc_14 : (14 : Int32).toNatClampNeg = 14 := by decide
theorem ixc_15 : (15 : Int32).toNatClampNeg = 15 := by decide
theorem ixc_16 : (16 : Int32).toNatClampNeg = 16 := by decide
theorem ixc_17 : (17 : Int32).toNatClampNeg = 17 := by decide
theorem ixc_18 : (18 : Int32).toNatClampNeg = 18 := by decide
theorem ixc_19 : (19 : Int32).toNatClampNeg = 19 := by decide
theorem ixc_20 : (20 : Int32).toNatClampNeg = 20 := by decide
theorem ixc_29 : (29 : Int32).toNatClampNeg = 29 := by decide
theorem ixc_30 : (30 : Int32).toNatClampNeg = 30 := by decide
theorem ixc_39 : (39 : Int32).toNatClampNeg = 39 := by decide
theorem ixc_40 : (40 : Int32).toNatClampNeg = 40 := by decide
theorem ixc_553 : (553 : Int32).toNatClampNeg = 553 := by decide
/-! places: gyms (the gym, the kept, the trial, the five behind a plan's minutes), rules (in use, spare, kept), men (in use, kept), kinds -/
def gp (i k : Nat) : Nat := 68 + 13 * i + k
def rp (i k : Nat) : Nat := 14 + 10 * i + k
def mp (i k : Nat) : Nat := 44 + 4 * i + k
def kp (k : Nat) : Nat := 3 + k
def rI (i : Nat) : Nat := if i = 1 then 2 else 0
def kcls (k : Nat) : Nat := ([6, 0, 9, 5, 2, 10] : List Nat).getD k 6
def cN : Nat := 172
def rN : Nat := 16
theorem rI_lt {i : Nat} (_ : i < 8) : rI i < 3 := by unfold rI; split <;> omega
abbrev arI (cA : Nat → ClassId) (n : Nat) (f : Nat → Int32) : va_E := .inl (cA 0, n, .inl f)
abbrev arQ (c : ClassId) (n : Nat) (g : Nat → Option Nat) : va_E := .inl (c, n, .inr (.inr (.inr (.inr g))))
def gymLay (cA : Nat → ClassId) (A : Nat → Nat) (i k : Nat) (f : Nat → Int32) : va_E := if k = 0 then .inr (1, [.ref (A 2), .ref (A (rp (rI i) 0)), .ref (A (gp i 1)), .int (f 3), .ref (A (gp i 7)), .ref (A (gp i 10)), .int (f 6), .int (f 7), .int (f 8), .int (f 9), .int (f 10), .ref (A (gp i 11)), .ref (A (gp i 12))]) else if k = 1 then arQ (cA 2) 5 (fun j => if j < 5 then some (A (gp i (2 + j))) else none) else if k < 7 then arI cA 6 f else if k = 7 then arQ (cA 2) 2 (fun j => if j < 2 then some (A (gp i (8 + j))) else none) else if k < 10 then arI cA 6 f else if k = 10 then arI cA 3 f else if k = 11 then arI cA 5 f else arI cA 6 f
def rulLay (cA : Nat → ClassId) (A : Nat → Nat) (i k : Nat) (f : Nat → Int32) : va_E := if k = 0 then .inr (8, [.int (f 0), .ref (A (rp i 1)), .ref (A (rp i 2)), .ref (A (rp i 3)), .ref (A (rp i 4)), .ref (A (rp i 5)), .ref (A (rp i 6)), .ref (A (rp i 7)), .int (f 8), .ref (A 1), .ref (A (rp i 8)), .ref (A (rp i 9)), .int (f 12)]) else if k < 5 then arI cA 8 f else if k < 8 then arI cA 200 f else arI cA 201 f
def menLay (cA : Nat → ClassId) (A : Nat → Nat) (i k : Nat) (f : Nat → Int32) : va_E := if k = 0 then .inr (4, [.ref (A (mp i 1)), .ref (A (mp i 2)), .ref (A (mp i 3)), .int (f 3), .int (f 4), .int (f 5), .int (f 6), .int (f 7), .int (f 8)]) else arI cA 6 f
def lowLay (cA : Nat → ClassId) (A : Nat → Nat) (p : Nat) (f : Nat → Int32) : va_E := if p = 0 then .inr (11, [.ref (A 1), .int (f 1), .ref (A (rp 0 0)), .ref (A (rp 1 0)), .ref (A (rp 2 0)), .ref (A (mp 0 0)), .ref (A (mp 1 0)), .ref (A (gp 0 0)), .ref (A (gp 1 0)), .ref (A (gp 2 0)), .ref (A 64), .ref (A 52), .ref (A 9), .int (f 13), .int (f 14)]) else if p = 1 then .inl (cA 1, 200, .inl f) else if p = 2 then arQ (cA 3) 6 (fun j => if j < 6 then some (A (kp j)) else none) else if p < 9 then .inr (kcls (p - 3), []) else if p = 9 then arQ (cA 2) 4 (fun j => if j < 4 then some (A (10 + j)) else none) else arI cA 3 f
def midLay (cA : Nat → ClassId) (A : Nat → Nat) (p : Nat) (f : Nat → Int32) : va_E := if p = 52 then .inr (3, [.ref (A 2), .ref (A 53), .ref (A 54), .ref (A 55), .ref (A 60), .ref (A 61), .ref (A 62), .int (f 7), .int (f 8), .int (f 9), .ref (A 63), .int (f 11)]) else if p = 55 then arQ (cA 2) 4 (fun j => if j < 4 then some (A (56 + j)) else none) else if p < 55 then arI cA 4 f else if p < 60 then arI cA 40 f else if p < 63 then arI cA 4 f else if p = 63 then arI cA 30 f else if p = 64 then .inr (7, [.ref (A 65), .ref (A 66), .int (f 2), .int (f 3), .ref (A 67), .int (f 5), .int (f 6), .int (f 7), .int (f 8), .int (f 9), .int (f 10), .int (f 11)]) else if p = 65 then arQ (cA 4) 5 (fun j => if j < 5 then some (A (gp (3 + j) 0)) else none) else arI cA 4 f
def cLay : Lay := fun cA A p f => if p < 14 then lowLay cA A p f else if p < 44 then rulLay cA A ((p - 14) / 10) ((p - 14) % 10) f else if p < 52 then menLay cA A ((p - 44) / 4) ((p - 44) % 4) f else if p < 68 then midLay cA A p f else gymLay cA A ((p - 68) / 13) ((p - 68) % 13) f
def rLay : Lay := fun cA A p f => if p = 0 then .inr (12, [.ref (A 1), .ref (A 2), .int (f 2), .ref (A 3), .ref (A 4), .int (f 5), .int (f 6), .int (f 7), .int (f 8), .int (f 9), .int (f 10), .int (f 11), .ref (A 5), .int (f 13), .ref (A 6), .ref (A 7), .int (f 16), .int (f 17), .int (f 18), .int (f 19), .int (f 20), .int (f 21), .int (f 22), .int (f 23), .int (f 24), .ref (A 8), .int (f 26), .ref (A 9), .ref (A 10), .ref (A 11), .ref (A 12), .ref (A 13), .ref (A 14), .ref (A 15), .int (f 34), .int (f 35), .int (f 36), .int (f 37), .int (f 38)]) else arI cA (([0, 553, 553, 235, 200, 553, 4, 4, 12, 4, 4, 160, 4, 4, 4, 30] : List Nat).getD p 0) f
section LAYS
variable {cA : Nat → ClassId} {A : Nat → Nat} {i j k : Nat}
theorem cL_g (hk : k < 13) (f : Nat → Int32) : cLay cA A (gp i k) f = gymLay cA A i k f := by
  unfold cLay gp
  rw [if_neg (by omega), if_neg (by omega), if_neg (by omega), if_neg (by omega), show (68 + 13 * i + k - 68) / 13 = i by omega, show (68 + 13 * i + k - 68) % 13 = k by omega]
theorem cL_r (hi : i < 3) (hk : k < 10) (f : Nat → Int32) : cLay cA A (rp i k) f = rulLay cA A i k f := by
  unfold cLay rp
  rw [if_neg (by omega), if_pos (by omega), show (14 + 10 * i + k - 14) / 10 = i by omega, show (14 + 10 * i + k - 14) % 10 = k by omega]
theorem cL_m (hi : i < 2) (hk : k < 4) (f : Nat → Int32) : cLay cA A (mp i k) f = menLay cA A i k f := by
  unfold cLay mp
  rw [if_neg (by omega), if_neg (by omega), if_pos (by omega), show (44 + 4 * i + k - 44) / 4 = i by omega, show (44 + 4 * i + k - 44) % 4 = k by omega]
theorem lt_g (hi : i < 8) (hk : k < 13) : gp i k < cN := by unfold gp cN; omega
theorem lt_g2 (hi : i < 8) (hj : j < 5) : gp i (2 + j) < cN := by unfold gp cN; omega
theorem lt_g8 (hi : i < 8) (hj : j < 2) : gp i (8 + j) < cN := by unfold gp cN; omega
theorem lt_r (hi : i < 3) (hk : k < 10) : rp i k < cN := by unfold rp cN; omega
theorem lt_m (hi : i < 2) (hk : k < 4) : mp i k < cN := by unfold mp cN; omega
theorem lt_k (hk : k < 6) : kp k < cN := by unfold kp cN; omega
theorem lt_add (hj : j < 4) (_ : 10 ≤ cN) : 10 + j < cN := by unfold cN; omega
theorem lt_add56 (hj : j < 4) : 56 + j < cN := by unfold cN; omega
theorem lt_3 (hj : j < 5) : 3 + j < 8 := by omega
theorem L_gym (_ : i < 8) (f : Nat → Int32) : cLay cA A (gp i 0) f = .inr (1, [.ref (A 2), .ref (A (rp (rI i) 0)), .ref (A (gp i 1)), .int (f 3), .ref (A (gp i 7)), .ref (A (gp i 10)), .int (f 6), .int (f 7), .int (f 8), .int (f 9), .int (f 10), .ref (A (gp i 11)), .ref (A (gp i 12))]) := cL_g (by decide) f
theorem L_rules (hi : i < 3) (f : Nat → Int32) : cLay cA A (rp i 0) f = .inr (8, [.int (f 0), .ref (A (rp i 1)), .ref (A (rp i 2)), .ref (A (rp i 3)), .ref (A (rp i 4)), .ref (A (rp i 5)), .ref (A (rp i 6)), .ref (A (rp i 7)), .int (f 8), .ref (A 1), .ref (A (rp i 8)), .ref (A (rp i 9)), .int (f 12)]) := cL_r hi (by decide) f
theorem L_men (hi : i < 2) (f : Nat → Int32) : cLay cA A (mp i 0) f = .inr (4, [.ref (A (mp i 1)), .ref (A (mp i 2)), .ref (A (mp i 3)), .int (f 3), .int (f 4), .int (f 5), .int (f 6), .int (f 7), .int (f 8)]) := cL_m hi (by decide) f
theorem L_bt (f : Nat → Int32) : cLay cA A 0 f = .inr (11, [.ref (A 1), .int (f 1), .ref (A (rp 0 0)), .ref (A (rp 1 0)), .ref (A (rp 2 0)), .ref (A (mp 0 0)), .ref (A (mp 1 0)), .ref (A (gp 0 0)), .ref (A (gp 1 0)), .ref (A (gp 2 0)), .ref (A 64), .ref (A 52), .ref (A 9), .int (f 13), .int (f 14)]) := rfl
theorem L_host (f : Nat → Int32) : cLay cA A 52 f = .inr (3, [.ref (A 2), .ref (A 53), .ref (A 54), .ref (A 55), .ref (A 60), .ref (A 61), .ref (A 62), .int (f 7), .int (f 8), .int (f 9), .ref (A 63), .int (f 11)]) := rfl
theorem L_plans (f : Nat → Int32) : cLay cA A 64 f = .inr (7, [.ref (A 65), .ref (A 66), .int (f 2), .int (f 3), .ref (A 67), .int (f 5), .int (f 6), .int (f 7), .int (f 8), .int (f 9), .int (f 10), .int (f 11)]) := rfl
theorem L_ref (f : Nat → Int32) : rLay cA A 0 f = .inr (12, [.ref (A 1), .ref (A 2), .int (f 2), .ref (A 3), .ref (A 4), .int (f 5), .int (f 6), .int (f 7), .int (f 8), .int (f 9), .int (f 10), .int (f 11), .ref (A 5), .int (f 13), .ref (A 6), .ref (A 7), .int (f 16), .int (f 17), .int (f 18), .int (f 19), .int (f 20), .int (f 21), .int (f 22), .int (f 23), .int (f 24), .ref (A 8), .int (f 26), .ref (A 9), .ref (A 10), .ref (A 11), .ref (A 12), .ref (A 13), .ref (A 14), .ref (A 15), .int (f 34), .int (f 35), .int (f 36), .int (f 37), .int (f 38)]) := rfl
theorem L_kind (hk : k < 6) (f : Nat → Int32) : cLay cA A (kp k) f = .inr (kcls k, []) := by
  unfold cLay kp lowLay
  rw [if_pos (by omega), if_neg (by omega), if_neg (by omega), if_neg (by omega), if_pos (by omega), show 3 + k - 3 = k by omega]
theorem La_1 (f : Nat → Int32) : cLay cA A 1 f = .inl (cA 1, 200, .inl f) := rfl
theorem Lq_2 (f : Nat → Int32) : cLay cA A 2 f = arQ (cA 3) 6 (fun j => if j < 6 then some (A (kp j)) else none) := rfl
theorem Lq_9 (f : Nat → Int32) : cLay cA A 9 f = arQ (cA 2) 4 (fun j => if j < 4 then some (A (10 + j)) else none) := rfl
theorem Lq_55 (f : Nat → Int32) : cLay cA A 55 f = arQ (cA 2) 4 (fun j => if j < 4 then some (A (56 + j)) else none) := rfl
theorem Lq_65 (f : Nat → Int32) : cLay cA A 65 f = arQ (cA 4) 5 (fun j => if j < 5 then some (A (gp (3 + j) 0)) else none) := rfl
theorem La_53 (f : Nat → Int32) : cLay cA A 53 f = arI cA 4 f := rfl
theorem La_54 (f : Nat → Int32) : cLay cA A 54 f = arI cA 4 f := rfl
theorem La_60 (f : Nat → Int32) : cLay cA A 60 f = arI cA 4 f := rfl
theorem La_61 (f : Nat → Int32) : cLay cA A 61 f = arI cA 4 f := rfl
theorem La_62 (f : Nat → Int32) : cLay cA A 62 f = arI cA 4 f := rfl
theorem La_63 (f : Nat → Int32) : cLay cA A 63 f = arI cA 30 f := rfl
theorem La_66 (f : Nat → Int32) : cLay cA A 66 f = arI cA 4 f := rfl
theorem La_67 (f : Nat → Int32) : cLay cA A 67 f = arI cA 4 f := rfl
theorem La_rows (hj : j < 4) (f : Nat → Int32) : cLay cA A (10 + j) f = arI cA 3 f := by
  unfold cLay lowLay
  rw [if_pos (by omega), if_neg (by omega), if_neg (by omega), if_neg (by omega), if_neg (by omega), if_neg (by omega)]
theorem La_item (hj : j < 4) (f : Nat → Int32) : cLay cA A (56 + j) f = arI cA 40 f := by
  unfold cLay midLay
  rw [if_neg (by omega), if_neg (by omega), if_neg (by omega), if_pos (by omega), if_neg (by omega), if_neg (by omega), if_neg (by omega), if_pos (by omega)]
theorem Lq_g_1 (_ : i < 8) (f : Nat → Int32) : cLay cA A (gp i 1) f = arQ (cA 2) 5 (fun j => if j < 5 then some (A (gp i (2 + j))) else none) := cL_g (by decide) f
theorem Lq_g_7 (_ : i < 8) (f : Nat → Int32) : cLay cA A (gp i 7) f = arQ (cA 2) 2 (fun j => if j < 2 then some (A (gp i (8 + j))) else none) := cL_g (by decide) f
theorem La_g_row (_ : i < 8) (hj : j < 5) (f : Nat → Int32) : cLay cA A (gp i (2 + j)) f = arI cA 6 f := by
  rw [cL_g (by omega)]
  unfold gymLay
  rw [if_neg (by omega), if_neg (by omega), if_pos (by omega)]
theorem La_g_mrow (_ : i < 8) (hj : j < 2) (f : Nat → Int32) : cLay cA A (gp i (8 + j)) f = arI cA 6 f := by
  rw [cL_g (by omega)]
  unfold gymLay
  rw [if_neg (by omega), if_neg (by omega), if_neg (by omega), if_neg (by omega), if_pos (by omega)]
theorem La_g_10 (_ : i < 8) (f : Nat → Int32) : cLay cA A (gp i 10) f = arI cA 3 f := cL_g (by decide) f
theorem La_g_11 (_ : i < 8) (f : Nat → Int32) : cLay cA A (gp i 11) f = arI cA 5 f := cL_g (by decide) f
theorem La_g_12 (_ : i < 8) (f : Nat → Int32) : cLay cA A (gp i 12) f = arI cA 6 f := cL_g (by decide) f
theorem La_r_1 (hi : i < 3) (f : Nat → Int32) : cLay cA A (rp i 1) f = arI cA 8 f := cL_r hi (by decide) f
theorem La_r_2 (hi : i < 3) (f : Nat → Int32) : cLay cA A (rp i 2) f = arI cA 8 f := cL_r hi (by decide) f
theorem La_r_3 (hi : i < 3) (f : Nat → Int32) : cLay cA A (rp i 3) f = arI cA 8 f := cL_r hi (by decide) f
theorem La_r_4 (hi : i < 3) (f : Nat → Int32) : cLay cA A (rp i 4) f = arI cA 8 f := cL_r hi (by decide) f
theorem La_r_5 (hi : i < 3) (f : Nat → Int32) : cLay cA A (rp i 5) f = arI cA 200 f := cL_r hi (by decide) f
theorem La_r_6 (hi : i < 3) (f : Nat → Int32) : cLay cA A (rp i 6) f = arI cA 200 f := cL_r hi (by decide) f
theorem La_r_7 (hi : i < 3) (f : Nat → Int32) : cLay cA A (rp i 7) f = arI cA 200 f := cL_r hi (by decide) f
theorem La_r_8 (hi : i < 3) (f : Nat → Int32) : cLay cA A (rp i 8) f = arI cA 201 f := cL_r hi (by decide) f
theorem La_r_9 (hi : i < 3) (f : Nat → Int32) : cLay cA A (rp i 9) f = arI cA 201 f := cL_r hi (by decide) f
theorem La_m_1 (hi : i < 2) (f : Nat → Int32) : cLay cA A (mp i 1) f = arI cA 6 f := cL_m hi (by decide) f
theorem La_m_2 (hi : i < 2) (f : Nat → Int32) : cLay cA A (mp i 2) f = arI cA 6 f := cL_m hi (by decide) f
theorem La_m_3 (hi : i < 2) (f : Nat → Int32) : cLay cA A (mp i 3) f = arI cA 6 f := cL_m hi (by decide) f
theorem Lr_1 (f : Nat → Int32) : rLay cA A 1 f = arI cA 553 f := rfl
theorem Lr_2 (f : Nat → Int32) : rLay cA A 2 f = arI cA 553 f := rfl
theorem Lr_3 (f : Nat → Int32) : rLay cA A 3 f = arI cA 235 f := rfl
theorem Lr_4 (f : Nat → Int32) : rLay cA A 4 f = arI cA 200 f := rfl
theorem Lr_5 (f : Nat → Int32) : rLay cA A 5 f = arI cA 553 f := rfl
theorem Lr_6 (f : Nat → Int32) : rLay cA A 6 f = arI cA 4 f := rfl
theorem Lr_7 (f : Nat → Int32) : rLay cA A 7 f = arI cA 4 f := rfl
theorem Lr_8 (f : Nat → Int32) : rLay cA A 8 f = arI cA 12 f := rfl
theorem Lr_9 (f : Nat → Int32) : rLay cA A 9 f = arI cA 4 f := rfl
theorem Lr_10 (f : Nat → Int32) : rLay cA A 10 f = arI cA 4 f := rfl
theorem Lr_11 (f : Nat → Int32) : rLay cA A 11 f = arI cA 160 f := rfl
theorem Lr_12 (f : Nat → Int32) : rLay cA A 12 f = arI cA 4 f := rfl
theorem Lr_13 (f : Nat → Int32) : rLay cA A 13 f = arI cA 4 f := rfl
theorem Lr_14 (f : Nat → Int32) : rLay cA A 14 f = arI cA 4 f := rfl
theorem Lr_15 (f : Nat → Int32) : rLay cA A 15 f = arI cA 30 f := rfl
end LAYS
theorem ws_X0 : ∀ w ∈ u_ws RX0 TX0 0, w ∈ WL := fun _ h => absurd h List.not_mem_nil
theorem kc_0 : KC 0 RX0 TX0 0 tyX0 := ⟨rfl, ws_X0, tyX0_ok, nmX0⟩
theorem ws_X1 : ∀ w ∈ u_ws RX1 TX1 13, w ∈ WL := List.forall_mem_cons.mpr ⟨wt_1_197, List.forall_mem_cons.mpr ⟨wt_1_199, List.forall_mem_cons.mpr ⟨wt_1_201, List.forall_mem_cons.mpr ⟨wt_1_203, List.forall_mem_cons.mpr ⟨wt_1_205, List.forall_mem_cons.mpr ⟨wt_1_207, List.forall_mem_cons.mpr ⟨wt_1_209, List.forall_mem_cons.mpr ⟨wt_1_211, List.forall_mem_cons.mpr ⟨wt_1_213, List.forall_mem_cons.mpr ⟨wt_1_215, List.forall_mem_cons.mpr ⟨wt_1_217, List.forall_mem_cons.mpr ⟨wt_1_219, List.forall_mem_cons.mpr ⟨wt_1_221, fun _ h => absurd h List.not_mem_nil⟩⟩⟩⟩⟩⟩⟩⟩⟩⟩⟩⟩⟩
theorem kc_1 : KC 1 RX1 TX1 13 tyX1 := ⟨rfl, ws_X1, tyX1_ok, nmX1⟩
theorem ws_X2 : ∀ w ∈ u_ws RX2 TX2 0, w ∈ WL := fun _ h => absurd h List.not_mem_nil
theorem kc_2 : KC 2 RX2 TX2 0 tyX2 := ⟨rfl, ws_X2, tyX2_ok, nmX2⟩
theorem ws_X3 : ∀ w ∈ u_ws RX3 TX3 12, w ∈ WL := List.forall_mem_cons.mpr ⟨wt_2_70, List.forall_mem_cons.mpr ⟨wt_2_72, List.forall_mem_cons.mpr ⟨wt_2_74, List.forall_mem_cons.mpr ⟨wt_2_76, List.forall_mem_cons.mpr ⟨wt_2_78, List.forall_mem_cons.mpr ⟨wt_2_80, List.forall_mem_cons.mpr ⟨wt_2_82, List.forall_mem_cons.mpr ⟨wt_2_84, List.forall_mem_cons.mpr ⟨wt_2_86, List.forall_mem_cons.mpr ⟨wt_2_88, List.forall_mem_cons.mpr ⟨wt_2_90, List.forall_mem_cons.mpr ⟨wt_2_92, fun _ h => absurd h List.not_mem_nil⟩⟩⟩⟩⟩⟩⟩⟩⟩⟩⟩⟩
theorem kc_3 : KC 3 RX3 TX3 12 tyX3 := ⟨rfl, ws_X3, tyX3_ok, nmX3⟩
theorem ws_X4 : ∀ w ∈ u_ws RX4 TX4 9, w ∈ WL := List.forall_mem_cons.mpr ⟨wt_1_99, List.forall_mem_cons.mpr ⟨wt_1_101, List.forall_mem_cons.mpr ⟨wt_1_103, List.forall_mem_cons.mpr ⟨wt_1_105, List.forall_mem_cons.mpr ⟨wt_1_107, List.forall_mem_cons.mpr ⟨wt_1_109, List.forall_mem_cons.mpr ⟨wt_1_111, List.forall_mem_cons.mpr ⟨wt_1_113, List.forall_mem_cons.mpr ⟨wt_1_115, fun _ h => absurd h List.not_mem_nil⟩⟩⟩⟩⟩⟩⟩⟩⟩
theorem kc_4 : KC 4 RX4 TX4 9 tyX4 := ⟨rfl, ws_X4, tyX4_ok, nmX4⟩
theorem ws_X5 : ∀ w ∈ u_ws RX5 TX5 0, w ∈ WL := fun _ h => absurd h List.not_mem_nil
theorem kc_5 : KC 5 RX5 TX5 0 tyX5 := ⟨rfl, ws_X5, tyX5_ok, nmX5⟩
theorem ws_X6 : ∀ w ∈ u_ws RX6 TX6 0, w ∈ WL := fun _ h => absurd h List.not_mem_nil
theorem kc_6 : KC 6 RX6 TX6 0 tyX6 := ⟨rfl, ws_X6, tyX6_ok, nmX6⟩
theorem ws_X7 : ∀ w ∈ u_ws RX7 TX7 12, w ∈ WL := List.forall_mem_cons.mpr ⟨wt_2_13, List.forall_mem_cons.mpr ⟨wt_2_15, List.forall_mem_cons.mpr ⟨wt_2_17, List.forall_mem_cons.mpr ⟨wt_2_19, List.forall_mem_cons.mpr ⟨wt_2_21, List.forall_mem_cons.mpr ⟨wt_2_23, List.forall_mem_cons.mpr ⟨wt_2_25, List.forall_mem_cons.mpr ⟨wt_2_27, List.forall_mem_cons.mpr ⟨wt_2_29, List.forall_mem_cons.mpr ⟨wt_2_31, List.forall_mem_cons.mpr ⟨wt_2_33, List.forall_mem_cons.mpr ⟨wt_2_35, fun _ h => absurd h List.not_mem_nil⟩⟩⟩⟩⟩⟩⟩⟩⟩⟩⟩⟩
theorem kc_7 : KC 7 RX7 TX7 12 tyX7 := ⟨rfl, ws_X7, tyX7_ok, nmX7⟩
theorem ws_X8 : ∀ w ∈ u_ws RX8 TX8 13, w ∈ WL := List.forall_mem_cons.mpr ⟨wt_1_49, List.forall_mem_cons.mpr ⟨wt_1_51, List.forall_mem_cons.mpr ⟨wt_1_53, List.forall_mem_cons.mpr ⟨wt_1_55, List.forall_mem_cons.mpr ⟨wt_1_57, List.forall_mem_cons.mpr ⟨wt_1_59, List.forall_mem_cons.mpr ⟨wt_1_61, List.forall_mem_cons.mpr ⟨wt_1_63, List.forall_mem_cons.mpr ⟨wt_1_65, List.forall_mem_cons.mpr ⟨wt_1_67, List.forall_mem_cons.mpr ⟨wt_1_69, List.forall_mem_cons.mpr ⟨wt_1_71, List.forall_mem_cons.mpr ⟨wt_1_73, fun _ h => absurd h List.not_mem_nil⟩⟩⟩⟩⟩⟩⟩⟩⟩⟩⟩⟩⟩
theorem kc_8 : KC 8 RX8 TX8 13 tyX8 := ⟨rfl, ws_X8, tyX8_ok, nmX8⟩
theorem ws_X9 : ∀ w ∈ u_ws RX9 TX9 0, w ∈ WL := fun _ h => absurd h List.not_mem_nil
theorem kc_9 : KC 9 RX9 TX9 0 tyX9 := ⟨rfl, ws_X9, tyX9_ok, nmX9⟩
theorem ws_X10 : ∀ w ∈ u_ws RX10 TX10 0, w ∈ WL := fun _ h => absurd h List.not_mem_nil
theorem kc_10 : KC 10 RX10 TX10 0 tyX10 := ⟨rfl, ws_X10, tyX10_ok, nmX10⟩
theorem ws_X11 : ∀ w ∈ u_ws RX11 TX11 15, w ∈ WL := List.forall_mem_cons.mpr ⟨wt_2_110, List.forall_mem_cons.mpr ⟨wt_2_112, List.forall_mem_cons.mpr ⟨wt_2_114, List.forall_mem_cons.mpr ⟨wt_2_116, List.forall_mem_cons.mpr ⟨wt_2_118, List.forall_mem_cons.mpr ⟨wt_2_120, List.forall_mem_cons.mpr ⟨wt_2_122, List.forall_mem_cons.mpr ⟨wt_2_124, List.forall_mem_cons.mpr ⟨wt_2_126, List.forall_mem_cons.mpr ⟨wt_2_128, List.forall_mem_cons.mpr ⟨wt_2_130, List.forall_mem_cons.mpr ⟨wt_2_132, List.forall_mem_cons.mpr ⟨wt_2_134, List.forall_mem_cons.mpr ⟨wt_2_136, List.forall_mem_cons.mpr ⟨wt_2_138, fun _ h => absurd h List.not_mem_nil⟩⟩⟩⟩⟩⟩⟩⟩⟩⟩⟩⟩⟩⟩⟩
theorem kc_11 : KC 11 RX11 TX11 15 tyX11 := ⟨rfl, ws_X11, tyX11_ok, nmX11⟩
theorem ws_X12 : ∀ w ∈ u_ws RX12 TX12 39, w ∈ WL := List.forall_mem_cons.mpr ⟨wt_5_211, List.forall_mem_cons.mpr ⟨wt_5_213, List.forall_mem_cons.mpr ⟨wt_5_215, List.forall_mem_cons.mpr ⟨wt_5_217, List.forall_mem_cons.mpr ⟨wt_5_219, List.forall_mem_cons.mpr ⟨wt_5_221, List.forall_mem_cons.mpr ⟨wt_5_223, List.forall_mem_cons.mpr ⟨wt_5_225, List.forall_mem_cons.mpr ⟨wt_5_227, List.forall_mem_cons.mpr ⟨wt_5_229, List.forall_mem_cons.mpr ⟨wt_5_231, List.forall_mem_cons.mpr ⟨wt_5_233, List.forall_mem_cons.mpr ⟨wt_5_235, List.forall_mem_cons.mpr ⟨wt_5_237, List.forall_mem_cons.mpr ⟨wt_5_239, List.forall_mem_cons.mpr ⟨wt_6_1, List.forall_mem_cons.mpr ⟨wt_6_3, List.forall_mem_cons.mpr ⟨wt_6_5, List.forall_mem_cons.mpr ⟨wt_6_7, List.forall_mem_cons.mpr ⟨wt_6_9, List.forall_mem_cons.mpr ⟨wt_6_11, List.forall_mem_cons.mpr ⟨wt_6_13, List.forall_mem_cons.mpr ⟨wt_6_15, List.forall_mem_cons.mpr ⟨wt_6_17, List.forall_mem_cons.mpr ⟨wt_6_19, List.forall_mem_cons.mpr ⟨wt_6_21, List.forall_mem_cons.mpr ⟨wt_6_23, List.forall_mem_cons.mpr ⟨wt_6_25, List.forall_mem_cons.mpr ⟨wt_6_27, List.forall_mem_cons.mpr ⟨wt_6_29, List.forall_mem_cons.mpr ⟨wt_6_31, List.forall_mem_cons.mpr ⟨wt_6_33, List.forall_mem_cons.mpr ⟨wt_6_35, List.forall_mem_cons.mpr ⟨wt_6_37, List.forall_mem_cons.mpr ⟨wt_6_39, List.forall_mem_cons.mpr ⟨wt_6_41, List.forall_mem_cons.mpr ⟨wt_6_43, List.forall_mem_cons.mpr ⟨wt_6_45, List.forall_mem_cons.mpr ⟨wt_6_47, fun _ h => absurd h List.not_mem_nil⟩⟩⟩⟩⟩⟩⟩⟩⟩⟩⟩⟩⟩⟩⟩⟩⟩⟩⟩⟩⟩⟩⟩⟩⟩⟩⟩⟩⟩⟩⟩⟩⟩⟩⟩⟩⟩⟩⟩
theorem kc_12 : KC 12 RX12 TX12 39 tyX12 := ⟨rfl, ws_X12, tyX12_ok, nmX12⟩
def kname (k : Nat) : String := ([RX6, RX0, RX9, RX5, RX2, RX10] : List String).getD k RX6
def kT (k : Nat) : u_T := ([TX6, TX0, TX9, TX5, TX2, TX10] : List u_T).getD k TX6
theorem kc_kind {k : Nat} (hk : k < 6) : vwCl[kcls k]? = some (kname k, kT k, 0) := by
  rcases (show k = 0 ∨ k = 1 ∨ k = 2 ∨ k = 3 ∨ k = 4 ∨ k = 5 by omega) with rfl | rfl | rfl | rfl | rfl | rfl <;> rfl
theorem hy_X0_init : yX0_init.cls ≠ "java/lang/invoke/MethodHandle" ∧ yX0_init.cls ≠ "java/lang/invoke/VarHandle" ∧ (parseMethodDescriptor yX0_init.desc).map (fun d => d.parameters.length) = some 0 := by decide +kernel
theorem hy_X0_may : yX0_may.cls ≠ "java/lang/invoke/MethodHandle" ∧ yX0_may.cls ≠ "java/lang/invoke/VarHandle" ∧ (parseMethodDescriptor yX0_may.desc).map (fun d => d.parameters.length) = some 2 := by decide +kernel
theorem hyU_X0_may : ("BenchTowels$Alone" : String) ≠ "java/lang/invoke/MethodHandle" ∧ ("BenchTowels$Alone" : String) ≠ "java/lang/invoke/VarHandle" ∧ (parseMethodDescriptor "(II)Z").map (fun d => d.parameters.length) = some 2 := by decide +kernel
theorem hyS_X0_may : yX0_may.name ≠ "<init>" ∧ (parseMethodDescriptor yX0_may.desc).map (fun d => d.parameters.length) = some 2 := by decide +kernel
theorem hy_X0_gains : yX0_gains.cls ≠ "java/lang/invoke/MethodHandle" ∧ yX0_gains.cls ≠ "java/lang/invoke/VarHandle" ∧ (parseMethodDescriptor yX0_gains.desc).map (fun d => d.parameters.length) = some 2 := by decide +kernel
theorem hyU_X0_gains : ("BenchTowels$Alone" : String) ≠ "java/lang/invoke/MethodHandle" ∧ ("BenchTowels$Alone" : String) ≠ "java/lang/invoke/VarHandle" ∧ (parseMethodDescriptor "(II)I").map (fun d => d.parameters.length) = some 2 := by decide +kernel
theorem hyS_X0_gains : yX0_gains.name ≠ "<init>" ∧ (parseMethodDescriptor yX0_gains.desc).map (fun d => d.parameters.length) = some 2 := by decide +kernel
theorem hy_X0_tires : yX0_tires.cls ≠ "java/lang/invoke/MethodHandle" ∧ yX0_tires.cls ≠ "java/lang/invoke/VarHandle" ∧ (parseMethodDescriptor yX0_tires.desc).map (fun d => d.parameters.length) = some 0 := by decide +kernel
theorem hyU_X0_tires : ("BenchTowels$Alone" : String) ≠ "java/lang/invoke/MethodHandle" ∧ ("BenchTowels$Alone" : String) ≠ "java/lang/invoke/VarHandle" ∧ (parseMethodDescriptor "()I").map (fun d => d.parameters.length) = some 0 := by decide +kernel
theorem hyS_X0_tires : yX0_tires.name ≠ "<init>" ∧ (parseMethodDescriptor yX0_tires.desc).map (fun d => d.parameters.length) = some 0 := by decide +kernel
theorem hy_X0_lifts : yX0_lifts.cls ≠ "java/lang/invoke/MethodHandle" ∧ yX0_lifts.cls ≠ "java/lang/invoke/VarHandle" ∧ (parseMethodDescriptor yX0_lifts.desc).map (fun d => d.parameters.length) = some 2 := by decide +kernel
theorem hyU_X0_lifts : ("BenchTowels$Alone" : String) ≠ "java/lang/invoke/MethodHandle" ∧ ("BenchTowels$Alone" : String) ≠ "java/lang/invoke/VarHandle" ∧ (parseMethodDescriptor "(LBenchTowels$Host;I)I").map (fun d => d.parameters.length) = some 2 := by decide +kernel
theorem hyS_X0_lifts : yX0_lifts.name ≠ "<init>" ∧ (parseMethodDescriptor yX0_lifts.desc).map (fun d => d.parameters.length) = some 2 := by decide +kernel
theorem hy_X1_init : yX1_init.cls ≠ "java/lang/invoke/MethodHandle" ∧ yX1_init.cls ≠ "java/lang/invoke/VarHandle" ∧ (parseMethodDescriptor yX1_init.desc).map (fun d => d.parameters.length) = some 2 := by decide +kernel
theorem hy_X1_copy : yX1_copy.cls ≠ "java/lang/invoke/MethodHandle" ∧ yX1_copy.cls ≠ "java/lang/invoke/VarHandle" ∧ (parseMethodDescriptor yX1_copy.desc).map (fun d => d.parameters.length) = some 1 := by decide +kernel
theorem hy_X1_follow : yX1_follow.cls ≠ "java/lang/invoke/MethodHandle" ∧ yX1_follow.cls ≠ "java/lang/invoke/VarHandle" ∧ (parseMethodDescriptor yX1_follow.desc).map (fun d => d.parameters.length) = some 1 := by decide +kernel
theorem hy_X1_add : yX1_add.cls ≠ "java/lang/invoke/MethodHandle" ∧ yX1_add.cls ≠ "java/lang/invoke/VarHandle" ∧ (parseMethodDescriptor yX1_add.desc).map (fun d => d.parameters.length) = some 4 := by decide +kernel
theorem hy_X1_alterSet : yX1_alterSet.cls ≠ "java/lang/invoke/MethodHandle" ∧ yX1_alterSet.cls ≠ "java/lang/invoke/VarHandle" ∧ (parseMethodDescriptor yX1_alterSet.desc).map (fun d => d.parameters.length) = some 3 := by decide +kernel
theorem hy_X1_beginAnew : yX1_beginAnew.cls ≠ "java/lang/invoke/MethodHandle" ∧ yX1_beginAnew.cls ≠ "java/lang/invoke/VarHandle" ∧ (parseMethodDescriptor yX1_beginAnew.desc).map (fun d => d.parameters.length) = some 0 := by decide +kernel
theorem hy_X1_has : yX1_has.cls ≠ "java/lang/invoke/MethodHandle" ∧ yX1_has.cls ≠ "java/lang/invoke/VarHandle" ∧ (parseMethodDescriptor yX1_has.desc).map (fun d => d.parameters.length) = some 1 := by decide +kernel
theorem hy_X1_isAct : yX1_isAct.cls ≠ "java/lang/invoke/MethodHandle" ∧ yX1_isAct.cls ≠ "java/lang/invoke/VarHandle" ∧ (parseMethodDescriptor yX1_isAct.desc).map (fun d => d.parameters.length) = some 1 := by decide +kernel
theorem hy_X1_isOfSets : yX1_isOfSets.cls ≠ "java/lang/invoke/MethodHandle" ∧ yX1_isOfSets.cls ≠ "java/lang/invoke/VarHandle" ∧ (parseMethodDescriptor yX1_isOfSets.desc).map (fun d => d.parameters.length) = some 1 := by decide +kernel
theorem hy_X1_isOver : yX1_isOver.cls ≠ "java/lang/invoke/MethodHandle" ∧ yX1_isOver.cls ≠ "java/lang/invoke/VarHandle" ∧ (parseMethodDescriptor yX1_isOver.desc).map (fun d => d.parameters.length) = some 0 := by decide +kernel
theorem hy_X1_spent : yX1_spent.cls ≠ "java/lang/invoke/MethodHandle" ∧ yX1_spent.cls ≠ "java/lang/invoke/VarHandle" ∧ (parseMethodDescriptor yX1_spent.desc).map (fun d => d.parameters.length) = some 0 := by decide +kernel
theorem hy_X1_mayIn : yX1_mayIn.cls ≠ "java/lang/invoke/MethodHandle" ∧ yX1_mayIn.cls ≠ "java/lang/invoke/VarHandle" ∧ (parseMethodDescriptor yX1_mayIn.desc).map (fun d => d.parameters.length) = some 2 := by decide +kernel
theorem hy_X1_gains : yX1_gains.cls ≠ "java/lang/invoke/MethodHandle" ∧ yX1_gains.cls ≠ "java/lang/invoke/VarHandle" ∧ (parseMethodDescriptor yX1_gains.desc).map (fun d => d.parameters.length) = some 1 := by decide +kernel
theorem hy_X1_tires : yX1_tires.cls ≠ "java/lang/invoke/MethodHandle" ∧ yX1_tires.cls ≠ "java/lang/invoke/VarHandle" ∧ (parseMethodDescriptor yX1_tires.desc).map (fun d => d.parameters.length) = some 1 := by decide +kernel
theorem hy_X1_will : yX1_will.cls ≠ "java/lang/invoke/MethodHandle" ∧ yX1_will.cls ≠ "java/lang/invoke/VarHandle" ∧ (parseMethodDescriptor yX1_will.desc).map (fun d => d.parameters.length) = some 1 := by decide +kernel
theorem hy_X1_goBy : yX1_goBy.cls ≠ "java/lang/invoke/MethodHandle" ∧ yX1_goBy.cls ≠ "java/lang/invoke/VarHandle" ∧ (parseMethodDescriptor yX1_goBy.desc).map (fun d => d.parameters.length) = some 1 := by decide +kernel
theorem hy_X1_doSet : yX1_doSet.cls ≠ "java/lang/invoke/MethodHandle" ∧ yX1_doSet.cls ≠ "java/lang/invoke/VarHandle" ∧ (parseMethodDescriptor yX1_doSet.desc).map (fun d => d.parameters.length) = some 2 := by decide +kernel
theorem hy_X1_restAct : yX1_restAct.cls ≠ "java/lang/invoke/MethodHandle" ∧ yX1_restAct.cls ≠ "java/lang/invoke/VarHandle" ∧ (parseMethodDescriptor yX1_restAct.desc).map (fun d => d.parameters.length) = some 0 := by decide +kernel
theorem hy_X1_goRest : yX1_goRest.cls ≠ "java/lang/invoke/MethodHandle" ∧ yX1_goRest.cls ≠ "java/lang/invoke/VarHandle" ∧ (parseMethodDescriptor yX1_goRest.desc).map (fun d => d.parameters.length) = some 1 := by decide +kernel
theorem hy_X1_drawAct : yX1_drawAct.cls ≠ "java/lang/invoke/MethodHandle" ∧ yX1_drawAct.cls ≠ "java/lang/invoke/VarHandle" ∧ (parseMethodDescriptor yX1_drawAct.desc).map (fun d => d.parameters.length) = some 0 := by decide +kernel
theorem hy_X1_goByLot : yX1_goByLot.cls ≠ "java/lang/invoke/MethodHandle" ∧ yX1_goByLot.cls ≠ "java/lang/invoke/VarHandle" ∧ (parseMethodDescriptor yX1_goByLot.desc).map (fun d => d.parameters.length) = some 0 := by decide +kernel
theorem hy_X1_takenIn : yX1_takenIn.cls ≠ "java/lang/invoke/MethodHandle" ∧ yX1_takenIn.cls ≠ "java/lang/invoke/VarHandle" ∧ (parseMethodDescriptor yX1_takenIn.desc).map (fun d => d.parameters.length) = some 1 := by decide +kernel
theorem hy_X1_gatherBy : yX1_gatherBy.cls ≠ "java/lang/invoke/MethodHandle" ∧ yX1_gatherBy.cls ≠ "java/lang/invoke/VarHandle" ∧ (parseMethodDescriptor yX1_gatherBy.desc).map (fun d => d.parameters.length) = some 1 := by decide +kernel
theorem hy_X1_openUntil : yX1_openUntil.cls ≠ "java/lang/invoke/MethodHandle" ∧ yX1_openUntil.cls ≠ "java/lang/invoke/VarHandle" ∧ (parseMethodDescriptor yX1_openUntil.desc).map (fun d => d.parameters.length) = some 1 := by decide +kernel
theorem hy_X1_eachHasOne : yX1_eachHasOne.cls ≠ "java/lang/invoke/MethodHandle" ∧ yX1_eachHasOne.cls ≠ "java/lang/invoke/VarHandle" ∧ (parseMethodDescriptor yX1_eachHasOne.desc).map (fun d => d.parameters.length) = some 1 := by decide +kernel
theorem hy_X1_openFor : yX1_openFor.cls ≠ "java/lang/invoke/MethodHandle" ∧ yX1_openFor.cls ≠ "java/lang/invoke/VarHandle" ∧ (parseMethodDescriptor yX1_openFor.desc).map (fun d => d.parameters.length) = some 1 := by decide +kernel
theorem hy_X1_firstRow : yX1_firstRow.cls ≠ "java/lang/invoke/MethodHandle" ∧ yX1_firstRow.cls ≠ "java/lang/invoke/VarHandle" ∧ (parseMethodDescriptor yX1_firstRow.desc).map (fun d => d.parameters.length) = some 3 := by decide +kernel
theorem hy_X1_settle : yX1_settle.cls ≠ "java/lang/invoke/MethodHandle" ∧ yX1_settle.cls ≠ "java/lang/invoke/VarHandle" ∧ (parseMethodDescriptor yX1_settle.desc).map (fun d => d.parameters.length) = some 2 := by decide +kernel
theorem hy_X2_init : yX2_init.cls ≠ "java/lang/invoke/MethodHandle" ∧ yX2_init.cls ≠ "java/lang/invoke/VarHandle" ∧ (parseMethodDescriptor yX2_init.desc).map (fun d => d.parameters.length) = some 0 := by decide +kernel
theorem hy_X2_may : yX2_may.cls ≠ "java/lang/invoke/MethodHandle" ∧ yX2_may.cls ≠ "java/lang/invoke/VarHandle" ∧ (parseMethodDescriptor yX2_may.desc).map (fun d => d.parameters.length) = some 2 := by decide +kernel
theorem hyU_X2_may : ("BenchTowels$Held" : String) ≠ "java/lang/invoke/MethodHandle" ∧ ("BenchTowels$Held" : String) ≠ "java/lang/invoke/VarHandle" ∧ (parseMethodDescriptor "(II)Z").map (fun d => d.parameters.length) = some 2 := by decide +kernel
theorem hyS_X2_may : yX2_may.name ≠ "<init>" ∧ (parseMethodDescriptor yX2_may.desc).map (fun d => d.parameters.length) = some 2 := by decide +kernel
theorem hy_X2_parts : yX2_parts.cls ≠ "java/lang/invoke/MethodHandle" ∧ yX2_parts.cls ≠ "java/lang/invoke/VarHandle" ∧ (parseMethodDescriptor yX2_parts.desc).map (fun d => d.parameters.length) = some 2 := by decide +kernel
theorem hyU_X2_parts : ("BenchTowels$Held" : String) ≠ "java/lang/invoke/MethodHandle" ∧ ("BenchTowels$Held" : String) ≠ "java/lang/invoke/VarHandle" ∧ (parseMethodDescriptor "(LBenchTowels$Host;I)I").map (fun d => d.parameters.length) = some 2 := by decide +kernel
theorem hyS_X2_parts : yX2_parts.name ≠ "<init>" ∧ (parseMethodDescriptor yX2_parts.desc).map (fun d => d.parameters.length) = some 2 := by decide +kernel
theorem hy_X3_init : yX3_init.cls ≠ "java/lang/invoke/MethodHandle" ∧ yX3_init.cls ≠ "java/lang/invoke/VarHandle" ∧ (parseMethodDescriptor yX3_init.desc).map (fun d => d.parameters.length) = some 1 := by decide +kernel
theorem hy_X3_lay : yX3_lay.cls ≠ "java/lang/invoke/MethodHandle" ∧ yX3_lay.cls ≠ "java/lang/invoke/VarHandle" ∧ (parseMethodDescriptor yX3_lay.desc).map (fun d => d.parameters.length) = some 3 := by decide +kernel
theorem hy_X3_refusal : yX3_refusal.cls ≠ "java/lang/invoke/MethodHandle" ∧ yX3_refusal.cls ≠ "java/lang/invoke/VarHandle" ∧ (parseMethodDescriptor yX3_refusal.desc).map (fun d => d.parameters.length) = some 2 := by decide +kernel
theorem hy_X3_hasItem : yX3_hasItem.cls ≠ "java/lang/invoke/MethodHandle" ∧ yX3_hasItem.cls ≠ "java/lang/invoke/VarHandle" ∧ (parseMethodDescriptor yX3_hasItem.desc).map (fun d => d.parameters.length) = some 2 := by decide +kernel
theorem hy_X3_narrowed : yX3_narrowed.cls ≠ "java/lang/invoke/MethodHandle" ∧ yX3_narrowed.cls ≠ "java/lang/invoke/VarHandle" ∧ (parseMethodDescriptor yX3_narrowed.desc).map (fun d => d.parameters.length) = some 2 := by decide +kernel
theorem hy_X3_putSet : yX3_putSet.cls ≠ "java/lang/invoke/MethodHandle" ∧ yX3_putSet.cls ≠ "java/lang/invoke/VarHandle" ∧ (parseMethodDescriptor yX3_putSet.desc).map (fun d => d.parameters.length) = some 2 := by decide +kernel
theorem hy_X3_putRow : yX3_putRow.cls ≠ "java/lang/invoke/MethodHandle" ∧ yX3_putRow.cls ≠ "java/lang/invoke/VarHandle" ∧ (parseMethodDescriptor yX3_putRow.desc).map (fun d => d.parameters.length) = some 2 := by decide +kernel
theorem hy_X3_hold : yX3_hold.cls ≠ "java/lang/invoke/MethodHandle" ∧ yX3_hold.cls ≠ "java/lang/invoke/VarHandle" ∧ (parseMethodDescriptor yX3_hold.desc).map (fun d => d.parameters.length) = some 2 := by decide +kernel
theorem hy_X3_begins : yX3_begins.cls ≠ "java/lang/invoke/MethodHandle" ∧ yX3_begins.cls ≠ "java/lang/invoke/VarHandle" ∧ (parseMethodDescriptor yX3_begins.desc).map (fun d => d.parameters.length) = some 1 := by decide +kernel
theorem hy_X4_init : yX4_init.cls ≠ "java/lang/invoke/MethodHandle" ∧ yX4_init.cls ≠ "java/lang/invoke/VarHandle" ∧ (parseMethodDescriptor yX4_init.desc).map (fun d => d.parameters.length) = some 0 := by decide +kernel
theorem hy_X4_copy : yX4_copy.cls ≠ "java/lang/invoke/MethodHandle" ∧ yX4_copy.cls ≠ "java/lang/invoke/VarHandle" ∧ (parseMethodDescriptor yX4_copy.desc).map (fun d => d.parameters.length) = some 1 := by decide +kernel
theorem hy_X4_add : yX4_add.cls ≠ "java/lang/invoke/MethodHandle" ∧ yX4_add.cls ≠ "java/lang/invoke/VarHandle" ∧ (parseMethodDescriptor yX4_add.desc).map (fun d => d.parameters.length) = some 3 := by decide +kernel
theorem hy_X4_look : yX4_look.cls ≠ "java/lang/invoke/MethodHandle" ∧ yX4_look.cls ≠ "java/lang/invoke/VarHandle" ∧ (parseMethodDescriptor yX4_look.desc).map (fun d => d.parameters.length) = some 0 := by decide +kernel
theorem hy_X4_lookAt : yX4_lookAt.cls ≠ "java/lang/invoke/MethodHandle" ∧ yX4_lookAt.cls ≠ "java/lang/invoke/VarHandle" ∧ (parseMethodDescriptor yX4_lookAt.desc).map (fun d => d.parameters.length) = some 3 := by decide +kernel
theorem hy_X4_sat : yX4_sat.cls ≠ "java/lang/invoke/MethodHandle" ∧ yX4_sat.cls ≠ "java/lang/invoke/VarHandle" ∧ (parseMethodDescriptor yX4_sat.desc).map (fun d => d.parameters.length) = some 4 := by decide +kernel
theorem hy_X5_init : yX5_init.cls ≠ "java/lang/invoke/MethodHandle" ∧ yX5_init.cls ≠ "java/lang/invoke/VarHandle" ∧ (parseMethodDescriptor yX5_init.desc).map (fun d => d.parameters.length) = some 0 := by decide +kernel
theorem hy_X5_may : yX5_may.cls ≠ "java/lang/invoke/MethodHandle" ∧ yX5_may.cls ≠ "java/lang/invoke/VarHandle" ∧ (parseMethodDescriptor yX5_may.desc).map (fun d => d.parameters.length) = some 2 := by decide +kernel
theorem hyU_X5_may : ("BenchTowels$Paired" : String) ≠ "java/lang/invoke/MethodHandle" ∧ ("BenchTowels$Paired" : String) ≠ "java/lang/invoke/VarHandle" ∧ (parseMethodDescriptor "(II)Z").map (fun d => d.parameters.length) = some 2 := by decide +kernel
theorem hyS_X5_may : yX5_may.name ≠ "<init>" ∧ (parseMethodDescriptor yX5_may.desc).map (fun d => d.parameters.length) = some 2 := by decide +kernel
theorem hy_X5_gains : yX5_gains.cls ≠ "java/lang/invoke/MethodHandle" ∧ yX5_gains.cls ≠ "java/lang/invoke/VarHandle" ∧ (parseMethodDescriptor yX5_gains.desc).map (fun d => d.parameters.length) = some 2 := by decide +kernel
theorem hyU_X5_gains : ("BenchTowels$Paired" : String) ≠ "java/lang/invoke/MethodHandle" ∧ ("BenchTowels$Paired" : String) ≠ "java/lang/invoke/VarHandle" ∧ (parseMethodDescriptor "(II)I").map (fun d => d.parameters.length) = some 2 := by decide +kernel
theorem hyS_X5_gains : yX5_gains.name ≠ "<init>" ∧ (parseMethodDescriptor yX5_gains.desc).map (fun d => d.parameters.length) = some 2 := by decide +kernel
theorem hy_X5_lifts : yX5_lifts.cls ≠ "java/lang/invoke/MethodHandle" ∧ yX5_lifts.cls ≠ "java/lang/invoke/VarHandle" ∧ (parseMethodDescriptor yX5_lifts.desc).map (fun d => d.parameters.length) = some 2 := by decide +kernel
theorem hyU_X5_lifts : ("BenchTowels$Paired" : String) ≠ "java/lang/invoke/MethodHandle" ∧ ("BenchTowels$Paired" : String) ≠ "java/lang/invoke/VarHandle" ∧ (parseMethodDescriptor "(LBenchTowels$Host;I)I").map (fun d => d.parameters.length) = some 2 := by decide +kernel
theorem hyS_X5_lifts : yX5_lifts.name ≠ "<init>" ∧ (parseMethodDescriptor yX5_lifts.desc).map (fun d => d.parameters.length) = some 2 := by decide +kernel
theorem hy_X5_wipes : yX5_wipes.cls ≠ "java/lang/invoke/MethodHandle" ∧ yX5_wipes.cls ≠ "java/lang/invoke/VarHandle" ∧ (parseMethodDescriptor yX5_wipes.desc).map (fun d => d.parameters.length) = some 2 := by decide +kernel
theorem hyU_X5_wipes : ("BenchTowels$Paired" : String) ≠ "java/lang/invoke/MethodHandle" ∧ ("BenchTowels$Paired" : String) ≠ "java/lang/invoke/VarHandle" ∧ (parseMethodDescriptor "(LBenchTowels$Host;I)I").map (fun d => d.parameters.length) = some 2 := by decide +kernel
theorem hyS_X5_wipes : yX5_wipes.name ≠ "<init>" ∧ (parseMethodDescriptor yX5_wipes.desc).map (fun d => d.parameters.length) = some 2 := by decide +kernel
theorem hy_X6_init : yX6_init.cls ≠ "java/lang/invoke/MethodHandle" ∧ yX6_init.cls ≠ "java/lang/invoke/VarHandle" ∧ (parseMethodDescriptor yX6_init.desc).map (fun d => d.parameters.length) = some 0 := by decide +kernel
theorem hy_X6_isTaken : yX6_isTaken.cls ≠ "java/lang/invoke/MethodHandle" ∧ yX6_isTaken.cls ≠ "java/lang/invoke/VarHandle" ∧ (parseMethodDescriptor yX6_isTaken.desc).map (fun d => d.parameters.length) = some 2 := by decide +kernel
theorem hyU_X6_isTaken : ("BenchTowels$Plain" : String) ≠ "java/lang/invoke/MethodHandle" ∧ ("BenchTowels$Plain" : String) ≠ "java/lang/invoke/VarHandle" ∧ (parseMethodDescriptor "(II)Z").map (fun d => d.parameters.length) = some 2 := by decide +kernel
theorem hyS_X6_isTaken : yX6_isTaken.name ≠ "<init>" ∧ (parseMethodDescriptor yX6_isTaken.desc).map (fun d => d.parameters.length) = some 2 := by decide +kernel
theorem hy_X6_may : yX6_may.cls ≠ "java/lang/invoke/MethodHandle" ∧ yX6_may.cls ≠ "java/lang/invoke/VarHandle" ∧ (parseMethodDescriptor yX6_may.desc).map (fun d => d.parameters.length) = some 2 := by decide +kernel
theorem hyU_X6_may : ("BenchTowels$Plain" : String) ≠ "java/lang/invoke/MethodHandle" ∧ ("BenchTowels$Plain" : String) ≠ "java/lang/invoke/VarHandle" ∧ (parseMethodDescriptor "(II)Z").map (fun d => d.parameters.length) = some 2 := by decide +kernel
theorem hyS_X6_may : yX6_may.name ≠ "<init>" ∧ (parseMethodDescriptor yX6_may.desc).map (fun d => d.parameters.length) = some 2 := by decide +kernel
theorem hy_X6_gains : yX6_gains.cls ≠ "java/lang/invoke/MethodHandle" ∧ yX6_gains.cls ≠ "java/lang/invoke/VarHandle" ∧ (parseMethodDescriptor yX6_gains.desc).map (fun d => d.parameters.length) = some 2 := by decide +kernel
theorem hyU_X6_gains : ("BenchTowels$Plain" : String) ≠ "java/lang/invoke/MethodHandle" ∧ ("BenchTowels$Plain" : String) ≠ "java/lang/invoke/VarHandle" ∧ (parseMethodDescriptor "(II)I").map (fun d => d.parameters.length) = some 2 := by decide +kernel
theorem hyS_X6_gains : yX6_gains.name ≠ "<init>" ∧ (parseMethodDescriptor yX6_gains.desc).map (fun d => d.parameters.length) = some 2 := by decide +kernel
theorem hy_X6_tires : yX6_tires.cls ≠ "java/lang/invoke/MethodHandle" ∧ yX6_tires.cls ≠ "java/lang/invoke/VarHandle" ∧ (parseMethodDescriptor yX6_tires.desc).map (fun d => d.parameters.length) = some 0 := by decide +kernel
theorem hyU_X6_tires : ("BenchTowels$Plain" : String) ≠ "java/lang/invoke/MethodHandle" ∧ ("BenchTowels$Plain" : String) ≠ "java/lang/invoke/VarHandle" ∧ (parseMethodDescriptor "()I").map (fun d => d.parameters.length) = some 0 := by decide +kernel
theorem hyS_X6_tires : yX6_tires.name ≠ "<init>" ∧ (parseMethodDescriptor yX6_tires.desc).map (fun d => d.parameters.length) = some 0 := by decide +kernel
theorem hy_X6_lifts : yX6_lifts.cls ≠ "java/lang/invoke/MethodHandle" ∧ yX6_lifts.cls ≠ "java/lang/invoke/VarHandle" ∧ (parseMethodDescriptor yX6_lifts.desc).map (fun d => d.parameters.length) = some 2 := by decide +kernel
theorem hyU_X6_lifts : ("BenchTowels$Plain" : String) ≠ "java/lang/invoke/MethodHandle" ∧ ("BenchTowels$Plain" : String) ≠ "java/lang/invoke/VarHandle" ∧ (parseMethodDescriptor "(LBenchTowels$Host;I)I").map (fun d => d.parameters.length) = some 2 := by decide +kernel
theorem hyS_X6_lifts : yX6_lifts.name ≠ "<init>" ∧ (parseMethodDescriptor yX6_lifts.desc).map (fun d => d.parameters.length) = some 2 := by decide +kernel
theorem hy_X6_groans : yX6_groans.cls ≠ "java/lang/invoke/MethodHandle" ∧ yX6_groans.cls ≠ "java/lang/invoke/VarHandle" ∧ (parseMethodDescriptor yX6_groans.desc).map (fun d => d.parameters.length) = some 2 := by decide +kernel
theorem hyU_X6_groans : ("BenchTowels$Plain" : String) ≠ "java/lang/invoke/MethodHandle" ∧ ("BenchTowels$Plain" : String) ≠ "java/lang/invoke/VarHandle" ∧ (parseMethodDescriptor "(LBenchTowels$Host;I)I").map (fun d => d.parameters.length) = some 2 := by decide +kernel
theorem hyS_X6_groans : yX6_groans.name ≠ "<init>" ∧ (parseMethodDescriptor yX6_groans.desc).map (fun d => d.parameters.length) = some 2 := by decide +kernel
theorem hy_X6_parts : yX6_parts.cls ≠ "java/lang/invoke/MethodHandle" ∧ yX6_parts.cls ≠ "java/lang/invoke/VarHandle" ∧ (parseMethodDescriptor yX6_parts.desc).map (fun d => d.parameters.length) = some 2 := by decide +kernel
theorem hyU_X6_parts : ("BenchTowels$Plain" : String) ≠ "java/lang/invoke/MethodHandle" ∧ ("BenchTowels$Plain" : String) ≠ "java/lang/invoke/VarHandle" ∧ (parseMethodDescriptor "(LBenchTowels$Host;I)I").map (fun d => d.parameters.length) = some 2 := by decide +kernel
theorem hyS_X6_parts : yX6_parts.name ≠ "<init>" ∧ (parseMethodDescriptor yX6_parts.desc).map (fun d => d.parameters.length) = some 2 := by decide +kernel
theorem hy_X6_wipes : yX6_wipes.cls ≠ "java/lang/invoke/MethodHandle" ∧ yX6_wipes.cls ≠ "java/lang/invoke/VarHandle" ∧ (parseMethodDescriptor yX6_wipes.desc).map (fun d => d.parameters.length) = some 2 := by decide +kernel
theorem hyU_X6_wipes : ("BenchTowels$Plain" : String) ≠ "java/lang/invoke/MethodHandle" ∧ ("BenchTowels$Plain" : String) ≠ "java/lang/invoke/VarHandle" ∧ (parseMethodDescriptor "(LBenchTowels$Host;I)I").map (fun d => d.parameters.length) = some 2 := by decide +kernel
theorem hyS_X6_wipes : yX6_wipes.name ≠ "<init>" ∧ (parseMethodDescriptor yX6_wipes.desc).map (fun d => d.parameters.length) = some 2 := by decide +kernel
theorem hy_X7_init : yX7_init.cls ≠ "java/lang/invoke/MethodHandle" ∧ yX7_init.cls ≠ "java/lang/invoke/VarHandle" ∧ (parseMethodDescriptor yX7_init.desc).map (fun d => d.parameters.length) = some 2 := by decide +kernel
theorem hy_X7_begin : yX7_begin.cls ≠ "java/lang/invoke/MethodHandle" ∧ yX7_begin.cls ≠ "java/lang/invoke/VarHandle" ∧ (parseMethodDescriptor yX7_begin.desc).map (fun d => d.parameters.length) = some 2 := by decide +kernel
theorem hy_X7_search : yX7_search.cls ≠ "java/lang/invoke/MethodHandle" ∧ yX7_search.cls ≠ "java/lang/invoke/VarHandle" ∧ (parseMethodDescriptor yX7_search.desc).map (fun d => d.parameters.length) = some 3 := by decide +kernel
theorem hy_X7_walk : yX7_walk.cls ≠ "java/lang/invoke/MethodHandle" ∧ yX7_walk.cls ≠ "java/lang/invoke/VarHandle" ∧ (parseMethodDescriptor yX7_walk.desc).map (fun d => d.parameters.length) = some 4 := by decide +kernel
theorem hy_X7_weigh : yX7_weigh.cls ≠ "java/lang/invoke/MethodHandle" ∧ yX7_weigh.cls ≠ "java/lang/invoke/VarHandle" ∧ (parseMethodDescriptor yX7_weigh.desc).map (fun d => d.parameters.length) = some 3 := by decide +kernel
theorem hy_X7_match : yX7_match.cls ≠ "java/lang/invoke/MethodHandle" ∧ yX7_match.cls ≠ "java/lang/invoke/VarHandle" ∧ (parseMethodDescriptor yX7_match.desc).map (fun d => d.parameters.length) = some 2 := by decide +kernel
theorem hy_X7_playOn : yX7_playOn.cls ≠ "java/lang/invoke/MethodHandle" ∧ yX7_playOn.cls ≠ "java/lang/invoke/VarHandle" ∧ (parseMethodDescriptor yX7_playOn.desc).map (fun d => d.parameters.length) = some 1 := by decide +kernel
theorem hy_X8_init : yX8_init.cls ≠ "java/lang/invoke/MethodHandle" ∧ yX8_init.cls ≠ "java/lang/invoke/VarHandle" ∧ (parseMethodDescriptor yX8_init.desc).map (fun d => d.parameters.length) = some 1 := by decide +kernel
theorem hy_X8_copy : yX8_copy.cls ≠ "java/lang/invoke/MethodHandle" ∧ yX8_copy.cls ≠ "java/lang/invoke/VarHandle" ∧ (parseMethodDescriptor yX8_copy.desc).map (fun d => d.parameters.length) = some 1 := by decide +kernel
theorem hy_X8_tell : yX8_tell.cls ≠ "java/lang/invoke/MethodHandle" ∧ yX8_tell.cls ≠ "java/lang/invoke/VarHandle" ∧ (parseMethodDescriptor yX8_tell.desc).map (fun d => d.parameters.length) = some 2 := by decide +kernel
theorem hy_X8_holds : yX8_holds.cls ≠ "java/lang/invoke/MethodHandle" ∧ yX8_holds.cls ≠ "java/lang/invoke/VarHandle" ∧ (parseMethodDescriptor yX8_holds.desc).map (fun d => d.parameters.length) = some 2 := by decide +kernel
theorem hy_X8_compares : yX8_compares.cls ≠ "java/lang/invoke/MethodHandle" ∧ yX8_compares.cls ≠ "java/lang/invoke/VarHandle" ∧ (parseMethodDescriptor yX8_compares.desc).map (fun d => d.parameters.length) = some 2 := by decide +kernel
theorem hy_X8_read : yX8_read.cls ≠ "java/lang/invoke/MethodHandle" ∧ yX8_read.cls ≠ "java/lang/invoke/VarHandle" ∧ (parseMethodDescriptor yX8_read.desc).map (fun d => d.parameters.length) = some 1 := by decide +kernel
theorem hy_X8_cut : yX8_cut.cls ≠ "java/lang/invoke/MethodHandle" ∧ yX8_cut.cls ≠ "java/lang/invoke/VarHandle" ∧ (parseMethodDescriptor yX8_cut.desc).map (fun d => d.parameters.length) = some 1 := by decide +kernel
theorem hy_X8_beginsAt : yX8_beginsAt.cls ≠ "java/lang/invoke/MethodHandle" ∧ yX8_beginsAt.cls ≠ "java/lang/invoke/VarHandle" ∧ (parseMethodDescriptor yX8_beginsAt.desc).map (fun d => d.parameters.length) = some 1 := by decide +kernel
theorem hy_X8_tokenAt : yX8_tokenAt.cls ≠ "java/lang/invoke/MethodHandle" ∧ yX8_tokenAt.cls ≠ "java/lang/invoke/VarHandle" ∧ (parseMethodDescriptor yX8_tokenAt.desc).map (fun d => d.parameters.length) = some 2 := by decide +kernel
theorem hy_X8_wordAt : yX8_wordAt.cls ≠ "java/lang/invoke/MethodHandle" ∧ yX8_wordAt.cls ≠ "java/lang/invoke/VarHandle" ∧ (parseMethodDescriptor yX8_wordAt.desc).map (fun d => d.parameters.length) = some 2 := by decide +kernel
theorem hy_X8_isWord : yX8_isWord.cls ≠ "java/lang/invoke/MethodHandle" ∧ yX8_isWord.cls ≠ "java/lang/invoke/VarHandle" ∧ (parseMethodDescriptor yX8_isWord.desc).map (fun d => d.parameters.length) = some 3 := by decide +kernel
theorem hy_X8_numberAt : yX8_numberAt.cls ≠ "java/lang/invoke/MethodHandle" ∧ yX8_numberAt.cls ≠ "java/lang/invoke/VarHandle" ∧ (parseMethodDescriptor yX8_numberAt.desc).map (fun d => d.parameters.length) = some 2 := by decide +kernel
theorem hy_X8_readRule : yX8_readRule.cls ≠ "java/lang/invoke/MethodHandle" ∧ yX8_readRule.cls ≠ "java/lang/invoke/VarHandle" ∧ (parseMethodDescriptor yX8_readRule.desc).map (fun d => d.parameters.length) = some 0 := by decide +kernel
theorem hy_X8_readAny : yX8_readAny.cls ≠ "java/lang/invoke/MethodHandle" ∧ yX8_readAny.cls ≠ "java/lang/invoke/VarHandle" ∧ (parseMethodDescriptor yX8_readAny.desc).map (fun d => d.parameters.length) = some 1 := by decide +kernel
theorem hy_X8_readAll : yX8_readAll.cls ≠ "java/lang/invoke/MethodHandle" ∧ yX8_readAll.cls ≠ "java/lang/invoke/VarHandle" ∧ (parseMethodDescriptor yX8_readAll.desc).map (fun d => d.parameters.length) = some 1 := by decide +kernel
theorem hy_X8_readOne : yX8_readOne.cls ≠ "java/lang/invoke/MethodHandle" ∧ yX8_readOne.cls ≠ "java/lang/invoke/VarHandle" ∧ (parseMethodDescriptor yX8_readOne.desc).map (fun d => d.parameters.length) = some 1 := by decide +kernel
theorem hy_X8_readInner : yX8_readInner.cls ≠ "java/lang/invoke/MethodHandle" ∧ yX8_readInner.cls ≠ "java/lang/invoke/VarHandle" ∧ (parseMethodDescriptor yX8_readInner.desc).map (fun d => d.parameters.length) = some 1 := by decide +kernel
theorem hy_X8_readCompare : yX8_readCompare.cls ≠ "java/lang/invoke/MethodHandle" ∧ yX8_readCompare.cls ≠ "java/lang/invoke/VarHandle" ∧ (parseMethodDescriptor yX8_readCompare.desc).map (fun d => d.parameters.length) = some 0 := by decide +kernel
theorem hy_X8_isValue : yX8_isValue.cls ≠ "java/lang/invoke/MethodHandle" ∧ yX8_isValue.cls ≠ "java/lang/invoke/VarHandle" ∧ (parseMethodDescriptor yX8_isValue.desc).map (fun d => d.parameters.length) = some 1 := by decide +kernel
theorem hy_X8_operand : yX8_operand.cls ≠ "java/lang/invoke/MethodHandle" ∧ yX8_operand.cls ≠ "java/lang/invoke/VarHandle" ∧ (parseMethodDescriptor yX8_operand.desc).map (fun d => d.parameters.length) = some 1 := by decide +kernel
theorem hy_X8_add : yX8_add.cls ≠ "java/lang/invoke/MethodHandle" ∧ yX8_add.cls ≠ "java/lang/invoke/VarHandle" ∧ (parseMethodDescriptor yX8_add.desc).map (fun d => d.parameters.length) = some 3 := by decide +kernel
theorem hy_X8_next : yX8_next.cls ≠ "java/lang/invoke/MethodHandle" ∧ yX8_next.cls ≠ "java/lang/invoke/VarHandle" ∧ (parseMethodDescriptor yX8_next.desc).map (fun d => d.parameters.length) = some 0 := by decide +kernel
theorem hy_X8_isLetter : yX8_isLetter.cls ≠ "java/lang/invoke/MethodHandle" ∧ yX8_isLetter.cls ≠ "java/lang/invoke/VarHandle" ∧ (parseMethodDescriptor yX8_isLetter.desc).map (fun d => d.parameters.length) = some 1 := by decide +kernel
theorem hy_X8_isDigit : yX8_isDigit.cls ≠ "java/lang/invoke/MethodHandle" ∧ yX8_isDigit.cls ≠ "java/lang/invoke/VarHandle" ∧ (parseMethodDescriptor yX8_isDigit.desc).map (fun d => d.parameters.length) = some 1 := by decide +kernel
theorem hy_X9_init : yX9_init.cls ≠ "java/lang/invoke/MethodHandle" ∧ yX9_init.cls ≠ "java/lang/invoke/VarHandle" ∧ (parseMethodDescriptor yX9_init.desc).map (fun d => d.parameters.length) = some 0 := by decide +kernel
theorem hy_X9_may : yX9_may.cls ≠ "java/lang/invoke/MethodHandle" ∧ yX9_may.cls ≠ "java/lang/invoke/VarHandle" ∧ (parseMethodDescriptor yX9_may.desc).map (fun d => d.parameters.length) = some 2 := by decide +kernel
theorem hyU_X9_may : ("BenchTowels$Shared" : String) ≠ "java/lang/invoke/MethodHandle" ∧ ("BenchTowels$Shared" : String) ≠ "java/lang/invoke/VarHandle" ∧ (parseMethodDescriptor "(II)Z").map (fun d => d.parameters.length) = some 2 := by decide +kernel
theorem hyS_X9_may : yX9_may.name ≠ "<init>" ∧ (parseMethodDescriptor yX9_may.desc).map (fun d => d.parameters.length) = some 2 := by decide +kernel
theorem hy_X9_gains : yX9_gains.cls ≠ "java/lang/invoke/MethodHandle" ∧ yX9_gains.cls ≠ "java/lang/invoke/VarHandle" ∧ (parseMethodDescriptor yX9_gains.desc).map (fun d => d.parameters.length) = some 2 := by decide +kernel
theorem hyU_X9_gains : ("BenchTowels$Shared" : String) ≠ "java/lang/invoke/MethodHandle" ∧ ("BenchTowels$Shared" : String) ≠ "java/lang/invoke/VarHandle" ∧ (parseMethodDescriptor "(II)I").map (fun d => d.parameters.length) = some 2 := by decide +kernel
theorem hyS_X9_gains : yX9_gains.name ≠ "<init>" ∧ (parseMethodDescriptor yX9_gains.desc).map (fun d => d.parameters.length) = some 2 := by decide +kernel
theorem hy_X9_tires : yX9_tires.cls ≠ "java/lang/invoke/MethodHandle" ∧ yX9_tires.cls ≠ "java/lang/invoke/VarHandle" ∧ (parseMethodDescriptor yX9_tires.desc).map (fun d => d.parameters.length) = some 0 := by decide +kernel
theorem hyU_X9_tires : ("BenchTowels$Shared" : String) ≠ "java/lang/invoke/MethodHandle" ∧ ("BenchTowels$Shared" : String) ≠ "java/lang/invoke/VarHandle" ∧ (parseMethodDescriptor "()I").map (fun d => d.parameters.length) = some 0 := by decide +kernel
theorem hyS_X9_tires : yX9_tires.name ≠ "<init>" ∧ (parseMethodDescriptor yX9_tires.desc).map (fun d => d.parameters.length) = some 0 := by decide +kernel
theorem hy_X9_groans : yX9_groans.cls ≠ "java/lang/invoke/MethodHandle" ∧ yX9_groans.cls ≠ "java/lang/invoke/VarHandle" ∧ (parseMethodDescriptor yX9_groans.desc).map (fun d => d.parameters.length) = some 2 := by decide +kernel
theorem hyU_X9_groans : ("BenchTowels$Shared" : String) ≠ "java/lang/invoke/MethodHandle" ∧ ("BenchTowels$Shared" : String) ≠ "java/lang/invoke/VarHandle" ∧ (parseMethodDescriptor "(LBenchTowels$Host;I)I").map (fun d => d.parameters.length) = some 2 := by decide +kernel
theorem hyS_X9_groans : yX9_groans.name ≠ "<init>" ∧ (parseMethodDescriptor yX9_groans.desc).map (fun d => d.parameters.length) = some 2 := by decide +kernel
theorem hy_X10_init : yX10_init.cls ≠ "java/lang/invoke/MethodHandle" ∧ yX10_init.cls ≠ "java/lang/invoke/VarHandle" ∧ (parseMethodDescriptor yX10_init.desc).map (fun d => d.parameters.length) = some 0 := by decide +kernel
theorem hy_X10_may : yX10_may.cls ≠ "java/lang/invoke/MethodHandle" ∧ yX10_may.cls ≠ "java/lang/invoke/VarHandle" ∧ (parseMethodDescriptor yX10_may.desc).map (fun d => d.parameters.length) = some 2 := by decide +kernel
theorem hyU_X10_may : ("BenchTowels$Unasked" : String) ≠ "java/lang/invoke/MethodHandle" ∧ ("BenchTowels$Unasked" : String) ≠ "java/lang/invoke/VarHandle" ∧ (parseMethodDescriptor "(II)Z").map (fun d => d.parameters.length) = some 2 := by decide +kernel
theorem hyS_X10_may : yX10_may.name ≠ "<init>" ∧ (parseMethodDescriptor yX10_may.desc).map (fun d => d.parameters.length) = some 2 := by decide +kernel
theorem hy_X10_gains : yX10_gains.cls ≠ "java/lang/invoke/MethodHandle" ∧ yX10_gains.cls ≠ "java/lang/invoke/VarHandle" ∧ (parseMethodDescriptor yX10_gains.desc).map (fun d => d.parameters.length) = some 2 := by decide +kernel
theorem hyU_X10_gains : ("BenchTowels$Unasked" : String) ≠ "java/lang/invoke/MethodHandle" ∧ ("BenchTowels$Unasked" : String) ≠ "java/lang/invoke/VarHandle" ∧ (parseMethodDescriptor "(II)I").map (fun d => d.parameters.length) = some 2 := by decide +kernel
theorem hyS_X10_gains : yX10_gains.name ≠ "<init>" ∧ (parseMethodDescriptor yX10_gains.desc).map (fun d => d.parameters.length) = some 2 := by decide +kernel
theorem hy_X10_tires : yX10_tires.cls ≠ "java/lang/invoke/MethodHandle" ∧ yX10_tires.cls ≠ "java/lang/invoke/VarHandle" ∧ (parseMethodDescriptor yX10_tires.desc).map (fun d => d.parameters.length) = some 0 := by decide +kernel
theorem hyU_X10_tires : ("BenchTowels$Unasked" : String) ≠ "java/lang/invoke/MethodHandle" ∧ ("BenchTowels$Unasked" : String) ≠ "java/lang/invoke/VarHandle" ∧ (parseMethodDescriptor "()I").map (fun d => d.parameters.length) = some 0 := by decide +kernel
theorem hyS_X10_tires : yX10_tires.name ≠ "<init>" ∧ (parseMethodDescriptor yX10_tires.desc).map (fun d => d.parameters.length) = some 0 := by decide +kernel
theorem hy_X10_groans : yX10_groans.cls ≠ "java/lang/invoke/MethodHandle" ∧ yX10_groans.cls ≠ "java/lang/invoke/VarHandle" ∧ (parseMethodDescriptor yX10_groans.desc).map (fun d => d.parameters.length) = some 2 := by decide +kernel
theorem hyU_X10_groans : ("BenchTowels$Unasked" : String) ≠ "java/lang/invoke/MethodHandle" ∧ ("BenchTowels$Unasked" : String) ≠ "java/lang/invoke/VarHandle" ∧ (parseMethodDescriptor "(LBenchTowels$Host;I)I").map (fun d => d.parameters.length) = some 2 := by decide +kernel
theorem hyS_X10_groans : yX10_groans.name ≠ "<init>" ∧ (parseMethodDescriptor yX10_groans.desc).map (fun d => d.parameters.length) = some 2 := by decide +kernel
theorem hy_X10_parts : yX10_parts.cls ≠ "java/lang/invoke/MethodHandle" ∧ yX10_parts.cls ≠ "java/lang/invoke/VarHandle" ∧ (parseMethodDescriptor yX10_parts.desc).map (fun d => d.parameters.length) = some 2 := by decide +kernel
theorem hyU_X10_parts : ("BenchTowels$Unasked" : String) ≠ "java/lang/invoke/MethodHandle" ∧ ("BenchTowels$Unasked" : String) ≠ "java/lang/invoke/VarHandle" ∧ (parseMethodDescriptor "(LBenchTowels$Host;I)I").map (fun d => d.parameters.length) = some 2 := by decide +kernel
theorem hyS_X10_parts : yX10_parts.name ≠ "<init>" ∧ (parseMethodDescriptor yX10_parts.desc).map (fun d => d.parameters.length) = some 2 := by decide +kernel
theorem hy_X11_init : yX11_init.cls ≠ "java/lang/invoke/MethodHandle" ∧ yX11_init.cls ≠ "java/lang/invoke/VarHandle" ∧ (parseMethodDescriptor yX11_init.desc).map (fun d => d.parameters.length) = some 0 := by decide +kernel
theorem hy_X11_set : yX11_set.cls ≠ "java/lang/invoke/MethodHandle" ∧ yX11_set.cls ≠ "java/lang/invoke/VarHandle" ∧ (parseMethodDescriptor yX11_set.desc).map (fun d => d.parameters.length) = some 4 := by decide +kernel
theorem hy_X11_setOf : yX11_setOf.cls ≠ "java/lang/invoke/MethodHandle" ∧ yX11_setOf.cls ≠ "java/lang/invoke/VarHandle" ∧ (parseMethodDescriptor yX11_setOf.desc).map (fun d => d.parameters.length) = some 2 := by decide +kernel
theorem hy_X11_change : yX11_change.cls ≠ "java/lang/invoke/MethodHandle" ∧ yX11_change.cls ≠ "java/lang/invoke/VarHandle" ∧ (parseMethodDescriptor yX11_change.desc).map (fun d => d.parameters.length) = some 3 := by decide +kernel
theorem hy_X11_remake : yX11_remake.cls ≠ "java/lang/invoke/MethodHandle" ∧ yX11_remake.cls ≠ "java/lang/invoke/VarHandle" ∧ (parseMethodDescriptor yX11_remake.desc).map (fun d => d.parameters.length) = some 2 := by decide +kernel
theorem hy_X11_machine : yX11_machine.cls ≠ "java/lang/invoke/MethodHandle" ∧ yX11_machine.cls ≠ "java/lang/invoke/VarHandle" ∧ (parseMethodDescriptor yX11_machine.desc).map (fun d => d.parameters.length) = some 3 := by decide +kernel
theorem hy_X11_machineOf : yX11_machineOf.cls ≠ "java/lang/invoke/MethodHandle" ∧ yX11_machineOf.cls ≠ "java/lang/invoke/VarHandle" ∧ (parseMethodDescriptor yX11_machineOf.desc).map (fun d => d.parameters.length) = some 2 := by decide +kernel
theorem hy_X11_tire : yX11_tire.cls ≠ "java/lang/invoke/MethodHandle" ∧ yX11_tire.cls ≠ "java/lang/invoke/VarHandle" ∧ (parseMethodDescriptor yX11_tire.desc).map (fun d => d.parameters.length) = some 2 := by decide +kernel
theorem hy_X11_ends : yX11_ends.cls ≠ "java/lang/invoke/MethodHandle" ∧ yX11_ends.cls ≠ "java/lang/invoke/VarHandle" ∧ (parseMethodDescriptor yX11_ends.desc).map (fun d => d.parameters.length) = some 1 := by decide +kernel
theorem hy_X11_anew : yX11_anew.cls ≠ "java/lang/invoke/MethodHandle" ∧ yX11_anew.cls ≠ "java/lang/invoke/VarHandle" ∧ (parseMethodDescriptor yX11_anew.desc).map (fun d => d.parameters.length) = some 0 := by decide +kernel
theorem hy_X11_state : yX11_state.cls ≠ "java/lang/invoke/MethodHandle" ∧ yX11_state.cls ≠ "java/lang/invoke/VarHandle" ∧ (parseMethodDescriptor yX11_state.desc).map (fun d => d.parameters.length) = some 1 := by decide +kernel
theorem hy_X11_feed : yX11_feed.cls ≠ "java/lang/invoke/MethodHandle" ∧ yX11_feed.cls ≠ "java/lang/invoke/VarHandle" ∧ (parseMethodDescriptor yX11_feed.desc).map (fun d => d.parameters.length) = some 2 := by decide +kernel
theorem hy_X11_rules : yX11_rules.cls ≠ "java/lang/invoke/MethodHandle" ∧ yX11_rules.cls ≠ "java/lang/invoke/VarHandle" ∧ (parseMethodDescriptor yX11_rules.desc).map (fun d => d.parameters.length) = some 0 := by decide +kernel
theorem hy_X11_minute : yX11_minute.cls ≠ "java/lang/invoke/MethodHandle" ∧ yX11_minute.cls ≠ "java/lang/invoke/VarHandle" ∧ (parseMethodDescriptor yX11_minute.desc).map (fun d => d.parameters.length) = some 0 := by decide +kernel
theorem hy_X11_on : yX11_on.cls ≠ "java/lang/invoke/MethodHandle" ∧ yX11_on.cls ≠ "java/lang/invoke/VarHandle" ∧ (parseMethodDescriptor yX11_on.desc).map (fun d => d.parameters.length) = some 1 := by decide +kernel
theorem hy_X11_when : yX11_when.cls ≠ "java/lang/invoke/MethodHandle" ∧ yX11_when.cls ≠ "java/lang/invoke/VarHandle" ∧ (parseMethodDescriptor yX11_when.desc).map (fun d => d.parameters.length) = some 1 := by decide +kernel
theorem hy_X11_weightFor : yX11_weightFor.cls ≠ "java/lang/invoke/MethodHandle" ∧ yX11_weightFor.cls ≠ "java/lang/invoke/VarHandle" ∧ (parseMethodDescriptor yX11_weightFor.desc).map (fun d => d.parameters.length) = some 1 := by decide +kernel
theorem hy_X11_machineFor : yX11_machineFor.cls ≠ "java/lang/invoke/MethodHandle" ∧ yX11_machineFor.cls ≠ "java/lang/invoke/VarHandle" ∧ (parseMethodDescriptor yX11_machineFor.desc).map (fun d => d.parameters.length) = some 1 := by decide +kernel
theorem hy_X11_gather : yX11_gather.cls ≠ "java/lang/invoke/MethodHandle" ∧ yX11_gather.cls ≠ "java/lang/invoke/VarHandle" ∧ (parseMethodDescriptor yX11_gather.desc).map (fun d => d.parameters.length) = some 1 := by decide +kernel
theorem hy_X11_gathered : yX11_gathered.cls ≠ "java/lang/invoke/MethodHandle" ∧ yX11_gathered.cls ≠ "java/lang/invoke/VarHandle" ∧ (parseMethodDescriptor yX11_gathered.desc).map (fun d => d.parameters.length) = some 2 := by decide +kernel
theorem hy_X11_free : yX11_free.cls ≠ "java/lang/invoke/MethodHandle" ∧ yX11_free.cls ≠ "java/lang/invoke/VarHandle" ∧ (parseMethodDescriptor yX11_free.desc).map (fun d => d.parameters.length) = some 2 := by decide +kernel
theorem hy_X11_busiest : yX11_busiest.cls ≠ "java/lang/invoke/MethodHandle" ∧ yX11_busiest.cls ≠ "java/lang/invoke/VarHandle" ∧ (parseMethodDescriptor yX11_busiest.desc).map (fun d => d.parameters.length) = some 1 := by decide +kernel
theorem hy_X11_best : yX11_best.cls ≠ "java/lang/invoke/MethodHandle" ∧ yX11_best.cls ≠ "java/lang/invoke/VarHandle" ∧ (parseMethodDescriptor yX11_best.desc).map (fun d => d.parameters.length) = some 1 := by decide +kernel
theorem hy_X11_ith : yX11_ith.cls ≠ "java/lang/invoke/MethodHandle" ∧ yX11_ith.cls ≠ "java/lang/invoke/VarHandle" ∧ (parseMethodDescriptor yX11_ith.desc).map (fun d => d.parameters.length) = some 2 := by decide +kernel
theorem hy_X11_ways : yX11_ways.cls ≠ "java/lang/invoke/MethodHandle" ∧ yX11_ways.cls ≠ "java/lang/invoke/VarHandle" ∧ (parseMethodDescriptor yX11_ways.desc).map (fun d => d.parameters.length) = some 1 := by decide +kernel
theorem hy_X11_train : yX11_train.cls ≠ "java/lang/invoke/MethodHandle" ∧ yX11_train.cls ≠ "java/lang/invoke/VarHandle" ∧ (parseMethodDescriptor yX11_train.desc).map (fun d => d.parameters.length) = some 2 := by decide +kernel
theorem hy_X11_bars : yX11_bars.cls ≠ "java/lang/invoke/MethodHandle" ∧ yX11_bars.cls ≠ "java/lang/invoke/VarHandle" ∧ (parseMethodDescriptor yX11_bars.desc).map (fun d => d.parameters.length) = some 2 := by decide +kernel
theorem hy_X11_game : yX11_game.cls ≠ "java/lang/invoke/MethodHandle" ∧ yX11_game.cls ≠ "java/lang/invoke/VarHandle" ∧ (parseMethodDescriptor yX11_game.desc).map (fun d => d.parameters.length) = some 1 := by decide +kernel
theorem hy_X11_play : yX11_play.cls ≠ "java/lang/invoke/MethodHandle" ∧ yX11_play.cls ≠ "java/lang/invoke/VarHandle" ∧ (parseMethodDescriptor yX11_play.desc).map (fun d => d.parameters.length) = some 1 := by decide +kernel
theorem hy_X11_report : yX11_report.cls ≠ "java/lang/invoke/MethodHandle" ∧ yX11_report.cls ≠ "java/lang/invoke/VarHandle" ∧ (parseMethodDescriptor yX11_report.desc).map (fun d => d.parameters.length) = some 3 := by decide +kernel
theorem hy_X11_forget : yX11_forget.cls ≠ "java/lang/invoke/MethodHandle" ∧ yX11_forget.cls ≠ "java/lang/invoke/VarHandle" ∧ (parseMethodDescriptor yX11_forget.desc).map (fun d => d.parameters.length) = some 0 := by decide +kernel
theorem hy_X11_span : yX11_span.cls ≠ "java/lang/invoke/MethodHandle" ∧ yX11_span.cls ≠ "java/lang/invoke/VarHandle" ∧ (parseMethodDescriptor yX11_span.desc).map (fun d => d.parameters.length) = some 1 := by decide +kernel
theorem hy_X11_liar : yX11_liar.cls ≠ "java/lang/invoke/MethodHandle" ∧ yX11_liar.cls ≠ "java/lang/invoke/VarHandle" ∧ (parseMethodDescriptor yX11_liar.desc).map (fun d => d.parameters.length) = some 0 := by decide +kernel
theorem hy_X11_seed : yX11_seed.cls ≠ "java/lang/invoke/MethodHandle" ∧ yX11_seed.cls ≠ "java/lang/invoke/VarHandle" ∧ (parseMethodDescriptor yX11_seed.desc).map (fun d => d.parameters.length) = some 1 := by decide +kernel
theorem hy_X11_lot : yX11_lot.cls ≠ "java/lang/invoke/MethodHandle" ∧ yX11_lot.cls ≠ "java/lang/invoke/VarHandle" ∧ (parseMethodDescriptor yX11_lot.desc).map (fun d => d.parameters.length) = some 0 := by decide +kernel
theorem hy_X11_times : yX11_times.cls ≠ "java/lang/invoke/MethodHandle" ∧ yX11_times.cls ≠ "java/lang/invoke/VarHandle" ∧ (parseMethodDescriptor yX11_times.desc).map (fun d => d.parameters.length) = some 2 := by decide +kernel
theorem hy_X11_prove : yX11_prove.cls ≠ "java/lang/invoke/MethodHandle" ∧ yX11_prove.cls ≠ "java/lang/invoke/VarHandle" ∧ (parseMethodDescriptor yX11_prove.desc).map (fun d => d.parameters.length) = some 1 := by decide +kernel
theorem hy_X11_row : yX11_row.cls ≠ "java/lang/invoke/MethodHandle" ∧ yX11_row.cls ≠ "java/lang/invoke/VarHandle" ∧ (parseMethodDescriptor yX11_row.desc).map (fun d => d.parameters.length) = some 2 := by decide +kernel
theorem hy_X11_alterRow : yX11_alterRow.cls ≠ "java/lang/invoke/MethodHandle" ∧ yX11_alterRow.cls ≠ "java/lang/invoke/VarHandle" ∧ (parseMethodDescriptor yX11_alterRow.desc).map (fun d => d.parameters.length) = some 3 := by decide +kernel
theorem hy_X11_judge : yX11_judge.cls ≠ "java/lang/invoke/MethodHandle" ∧ yX11_judge.cls ≠ "java/lang/invoke/VarHandle" ∧ (parseMethodDescriptor yX11_judge.desc).map (fun d => d.parameters.length) = some 0 := by decide +kernel
theorem hy_X11_sheet : yX11_sheet.cls ≠ "java/lang/invoke/MethodHandle" ∧ yX11_sheet.cls ≠ "java/lang/invoke/VarHandle" ∧ (parseMethodDescriptor yX11_sheet.desc).map (fun d => d.parameters.length) = some 3 := by decide +kernel
theorem hy_X11_write : yX11_write.cls ≠ "java/lang/invoke/MethodHandle" ∧ yX11_write.cls ≠ "java/lang/invoke/VarHandle" ∧ (parseMethodDescriptor yX11_write.desc).map (fun d => d.parameters.length) = some 3 := by decide +kernel
theorem hy_X11_item : yX11_item.cls ≠ "java/lang/invoke/MethodHandle" ∧ yX11_item.cls ≠ "java/lang/invoke/VarHandle" ∧ (parseMethodDescriptor yX11_item.desc).map (fun d => d.parameters.length) = some 3 := by decide +kernel
theorem hy_X11_goAll : yX11_goAll.cls ≠ "java/lang/invoke/MethodHandle" ∧ yX11_goAll.cls ≠ "java/lang/invoke/VarHandle" ∧ (parseMethodDescriptor yX11_goAll.desc).map (fun d => d.parameters.length) = some 3 := by decide +kernel
theorem hy_X11_wouldBe : yX11_wouldBe.cls ≠ "java/lang/invoke/MethodHandle" ∧ yX11_wouldBe.cls ≠ "java/lang/invoke/VarHandle" ∧ (parseMethodDescriptor yX11_wouldBe.desc).map (fun d => d.parameters.length) = some 3 := by decide +kernel
theorem hy_X11_shelf : yX11_shelf.cls ≠ "java/lang/invoke/MethodHandle" ∧ yX11_shelf.cls ≠ "java/lang/invoke/VarHandle" ∧ (parseMethodDescriptor yX11_shelf.desc).map (fun d => d.parameters.length) = some 3 := by decide +kernel
theorem hy_X11_taken : yX11_taken.cls ≠ "java/lang/invoke/MethodHandle" ∧ yX11_taken.cls ≠ "java/lang/invoke/VarHandle" ∧ (parseMethodDescriptor yX11_taken.desc).map (fun d => d.parameters.length) = some 2 := by decide +kernel
theorem hy_X11_act : yX11_act.cls ≠ "java/lang/invoke/MethodHandle" ∧ yX11_act.cls ≠ "java/lang/invoke/VarHandle" ∧ (parseMethodDescriptor yX11_act.desc).map (fun d => d.parameters.length) = some 3 := by decide +kernel
theorem hy_X11_trace : yX11_trace.cls ≠ "java/lang/invoke/MethodHandle" ∧ yX11_trace.cls ≠ "java/lang/invoke/VarHandle" ∧ (parseMethodDescriptor yX11_trace.desc).map (fun d => d.parameters.length) = some 1 := by decide +kernel
theorem hy_X11_many : yX11_many.cls ≠ "java/lang/invoke/MethodHandle" ∧ yX11_many.cls ≠ "java/lang/invoke/VarHandle" ∧ (parseMethodDescriptor yX11_many.desc).map (fun d => d.parameters.length) = some 1 := by decide +kernel
theorem hy_X11_keep : yX11_keep.cls ≠ "java/lang/invoke/MethodHandle" ∧ yX11_keep.cls ≠ "java/lang/invoke/VarHandle" ∧ (parseMethodDescriptor yX11_keep.desc).map (fun d => d.parameters.length) = some 0 := by decide +kernel
theorem hy_X11_again : yX11_again.cls ≠ "java/lang/invoke/MethodHandle" ∧ yX11_again.cls ≠ "java/lang/invoke/VarHandle" ∧ (parseMethodDescriptor yX11_again.desc).map (fun d => d.parameters.length) = some 0 := by decide +kernel
theorem hy_X11_suits : yX11_suits.cls ≠ "java/lang/invoke/MethodHandle" ∧ yX11_suits.cls ≠ "java/lang/invoke/VarHandle" ∧ (parseMethodDescriptor yX11_suits.desc).map (fun d => d.parameters.length) = some 2 := by decide +kernel
theorem hy_X11_leastOf : yX11_leastOf.cls ≠ "java/lang/invoke/MethodHandle" ∧ yX11_leastOf.cls ≠ "java/lang/invoke/VarHandle" ∧ (parseMethodDescriptor yX11_leastOf.desc).map (fun d => d.parameters.length) = some 1 := by decide +kernel
theorem hy_X11_isMachine : yX11_isMachine.cls ≠ "java/lang/invoke/MethodHandle" ∧ yX11_isMachine.cls ≠ "java/lang/invoke/VarHandle" ∧ (parseMethodDescriptor yX11_isMachine.desc).map (fun d => d.parameters.length) = some 2 := by decide +kernel
theorem hy_X11_isSheet : yX11_isSheet.cls ≠ "java/lang/invoke/MethodHandle" ∧ yX11_isSheet.cls ≠ "java/lang/invoke/VarHandle" ∧ (parseMethodDescriptor yX11_isSheet.desc).map (fun d => d.parameters.length) = some 1 := by decide +kernel
theorem hy_X11_isShelf : yX11_isShelf.cls ≠ "java/lang/invoke/MethodHandle" ∧ yX11_isShelf.cls ≠ "java/lang/invoke/VarHandle" ∧ (parseMethodDescriptor yX11_isShelf.desc).map (fun d => d.parameters.length) = some 1 := by decide +kernel
theorem hy_X11_isInRow : yX11_isInRow.cls ≠ "java/lang/invoke/MethodHandle" ∧ yX11_isInRow.cls ≠ "java/lang/invoke/VarHandle" ∧ (parseMethodDescriptor yX11_isInRow.desc).map (fun d => d.parameters.length) = some 2 := by decide +kernel
theorem hy_X11_holdsSet : yX11_holdsSet.cls ≠ "java/lang/invoke/MethodHandle" ∧ yX11_holdsSet.cls ≠ "java/lang/invoke/VarHandle" ∧ (parseMethodDescriptor yX11_holdsSet.desc).map (fun d => d.parameters.length) = some 1 := by decide +kernel
theorem hy_X11_bestFor : yX11_bestFor.cls ≠ "java/lang/invoke/MethodHandle" ∧ yX11_bestFor.cls ≠ "java/lang/invoke/VarHandle" ∧ (parseMethodDescriptor yX11_bestFor.desc).map (fun d => d.parameters.length) = some 2 := by decide +kernel
theorem hy_X12_init : yX12_init.cls ≠ "java/lang/invoke/MethodHandle" ∧ yX12_init.cls ≠ "java/lang/invoke/VarHandle" ∧ (parseMethodDescriptor yX12_init.desc).map (fun d => d.parameters.length) = some 0 := by decide +kernel
theorem hy_X12_isIn : yX12_isIn.cls ≠ "java/lang/invoke/MethodHandle" ∧ yX12_isIn.cls ≠ "java/lang/invoke/VarHandle" ∧ (parseMethodDescriptor yX12_isIn.desc).map (fun d => d.parameters.length) = some 3 := by decide +kernel
theorem hy_X12_isOne : yX12_isOne.cls ≠ "java/lang/invoke/MethodHandle" ∧ yX12_isOne.cls ≠ "java/lang/invoke/VarHandle" ∧ (parseMethodDescriptor yX12_isOne.desc).map (fun d => d.parameters.length) = some 1 := by decide +kernel
theorem hy_X12_isMachine : yX12_isMachine.cls ≠ "java/lang/invoke/MethodHandle" ∧ yX12_isMachine.cls ≠ "java/lang/invoke/VarHandle" ∧ (parseMethodDescriptor yX12_isMachine.desc).map (fun d => d.parameters.length) = some 1 := by decide +kernel
theorem hy_X12_its : yX12_its.cls ≠ "java/lang/invoke/MethodHandle" ∧ yX12_its.cls ≠ "java/lang/invoke/VarHandle" ∧ (parseMethodDescriptor yX12_its.desc).map (fun d => d.parameters.length) = some 2 := by decide +kernel
theorem hy_X12_becomes : yX12_becomes.cls ≠ "java/lang/invoke/MethodHandle" ∧ yX12_becomes.cls ≠ "java/lang/invoke/VarHandle" ∧ (parseMethodDescriptor yX12_becomes.desc).map (fun d => d.parameters.length) = some 2 := by decide +kernel
theorem hy_X12_laysAside : yX12_laysAside.cls ≠ "java/lang/invoke/MethodHandle" ∧ yX12_laysAside.cls ≠ "java/lang/invoke/VarHandle" ∧ (parseMethodDescriptor yX12_laysAside.desc).map (fun d => d.parameters.length) = some 1 := by decide +kernel
theorem hy_X12_laysBack : yX12_laysBack.cls ≠ "java/lang/invoke/MethodHandle" ∧ yX12_laysBack.cls ≠ "java/lang/invoke/VarHandle" ∧ (parseMethodDescriptor yX12_laysBack.desc).map (fun d => d.parameters.length) = some 1 := by decide +kernel
theorem hy_X12_isOver : yX12_isOver.cls ≠ "java/lang/invoke/MethodHandle" ∧ yX12_isOver.cls ≠ "java/lang/invoke/VarHandle" ∧ (parseMethodDescriptor yX12_isOver.desc).map (fun d => d.parameters.length) = some 0 := by decide +kernel
theorem hy_X12_size : yX12_size.cls ≠ "java/lang/invoke/MethodHandle" ∧ yX12_size.cls ≠ "java/lang/invoke/VarHandle" ∧ (parseMethodDescriptor yX12_size.desc).map (fun d => d.parameters.length) = some 1 := by decide +kernel
theorem hy_X12_least : yX12_least.cls ≠ "java/lang/invoke/MethodHandle" ∧ yX12_least.cls ≠ "java/lang/invoke/VarHandle" ∧ (parseMethodDescriptor yX12_least.desc).map (fun d => d.parameters.length) = some 2 := by decide +kernel
theorem hy_X12_apart : yX12_apart.cls ≠ "java/lang/invoke/MethodHandle" ∧ yX12_apart.cls ≠ "java/lang/invoke/VarHandle" ∧ (parseMethodDescriptor yX12_apart.desc).map (fun d => d.parameters.length) = some 2 := by decide +kernel
theorem hy_X12_set : yX12_set.cls ≠ "java/lang/invoke/MethodHandle" ∧ yX12_set.cls ≠ "java/lang/invoke/VarHandle" ∧ (parseMethodDescriptor yX12_set.desc).map (fun d => d.parameters.length) = some 4 := by decide +kernel
theorem hy_X12_isTaken : yX12_isTaken.cls ≠ "java/lang/invoke/MethodHandle" ∧ yX12_isTaken.cls ≠ "java/lang/invoke/VarHandle" ∧ (parseMethodDescriptor yX12_isTaken.desc).map (fun d => d.parameters.length) = some 2 := by decide +kernel
theorem hy_X12_may : yX12_may.cls ≠ "java/lang/invoke/MethodHandle" ∧ yX12_may.cls ≠ "java/lang/invoke/VarHandle" ∧ (parseMethodDescriptor yX12_may.desc).map (fun d => d.parameters.length) = some 2 := by decide +kernel
theorem hy_X12_gains : yX12_gains.cls ≠ "java/lang/invoke/MethodHandle" ∧ yX12_gains.cls ≠ "java/lang/invoke/VarHandle" ∧ (parseMethodDescriptor yX12_gains.desc).map (fun d => d.parameters.length) = some 1 := by decide +kernel
theorem hy_X12_tires : yX12_tires.cls ≠ "java/lang/invoke/MethodHandle" ∧ yX12_tires.cls ≠ "java/lang/invoke/VarHandle" ∧ (parseMethodDescriptor yX12_tires.desc).map (fun d => d.parameters.length) = some 1 := by decide +kernel
theorem hy_X12_isUnder : yX12_isUnder.cls ≠ "java/lang/invoke/MethodHandle" ∧ yX12_isUnder.cls ≠ "java/lang/invoke/VarHandle" ∧ (parseMethodDescriptor yX12_isUnder.desc).map (fun d => d.parameters.length) = some 2 := by decide +kernel
theorem hy_X12_valueOf : yX12_valueOf.cls ≠ "java/lang/invoke/MethodHandle" ∧ yX12_valueOf.cls ≠ "java/lang/invoke/VarHandle" ∧ (parseMethodDescriptor yX12_valueOf.desc).map (fun d => d.parameters.length) = some 2 := by decide +kernel
theorem hy_X12_holds : yX12_holds.cls ≠ "java/lang/invoke/MethodHandle" ∧ yX12_holds.cls ≠ "java/lang/invoke/VarHandle" ∧ (parseMethodDescriptor yX12_holds.desc).map (fun d => d.parameters.length) = some 2 := by decide +kernel
theorem hy_X12_will : yX12_will.cls ≠ "java/lang/invoke/MethodHandle" ∧ yX12_will.cls ≠ "java/lang/invoke/VarHandle" ∧ (parseMethodDescriptor yX12_will.desc).map (fun d => d.parameters.length) = some 1 := by decide +kernel
theorem hy_X12_setOf : yX12_setOf.cls ≠ "java/lang/invoke/MethodHandle" ∧ yX12_setOf.cls ≠ "java/lang/invoke/VarHandle" ∧ (parseMethodDescriptor yX12_setOf.desc).map (fun d => d.parameters.length) = some 2 := by decide +kernel
theorem hy_X12_change : yX12_change.cls ≠ "java/lang/invoke/MethodHandle" ∧ yX12_change.cls ≠ "java/lang/invoke/VarHandle" ∧ (parseMethodDescriptor yX12_change.desc).map (fun d => d.parameters.length) = some 3 := by decide +kernel
theorem hy_X12_remake : yX12_remake.cls ≠ "java/lang/invoke/MethodHandle" ∧ yX12_remake.cls ≠ "java/lang/invoke/VarHandle" ∧ (parseMethodDescriptor yX12_remake.desc).map (fun d => d.parameters.length) = some 2 := by decide +kernel
theorem hy_X12_machine : yX12_machine.cls ≠ "java/lang/invoke/MethodHandle" ∧ yX12_machine.cls ≠ "java/lang/invoke/VarHandle" ∧ (parseMethodDescriptor yX12_machine.desc).map (fun d => d.parameters.length) = some 3 := by decide +kernel
theorem hy_X12_machineOf : yX12_machineOf.cls ≠ "java/lang/invoke/MethodHandle" ∧ yX12_machineOf.cls ≠ "java/lang/invoke/VarHandle" ∧ (parseMethodDescriptor yX12_machineOf.desc).map (fun d => d.parameters.length) = some 2 := by decide +kernel
theorem hy_X12_tire : yX12_tire.cls ≠ "java/lang/invoke/MethodHandle" ∧ yX12_tire.cls ≠ "java/lang/invoke/VarHandle" ∧ (parseMethodDescriptor yX12_tire.desc).map (fun d => d.parameters.length) = some 2 := by decide +kernel
theorem hy_X12_ends : yX12_ends.cls ≠ "java/lang/invoke/MethodHandle" ∧ yX12_ends.cls ≠ "java/lang/invoke/VarHandle" ∧ (parseMethodDescriptor yX12_ends.desc).map (fun d => d.parameters.length) = some 1 := by decide +kernel
theorem hy_X12_anew : yX12_anew.cls ≠ "java/lang/invoke/MethodHandle" ∧ yX12_anew.cls ≠ "java/lang/invoke/VarHandle" ∧ (parseMethodDescriptor yX12_anew.desc).map (fun d => d.parameters.length) = some 0 := by decide +kernel
theorem hy_X12_noneLeft : yX12_noneLeft.cls ≠ "java/lang/invoke/MethodHandle" ∧ yX12_noneLeft.cls ≠ "java/lang/invoke/VarHandle" ∧ (parseMethodDescriptor yX12_noneLeft.desc).map (fun d => d.parameters.length) = some 0 := by decide +kernel
theorem hy_X12_state : yX12_state.cls ≠ "java/lang/invoke/MethodHandle" ∧ yX12_state.cls ≠ "java/lang/invoke/VarHandle" ∧ (parseMethodDescriptor yX12_state.desc).map (fun d => d.parameters.length) = some 1 := by decide +kernel
theorem hy_X12_feed : yX12_feed.cls ≠ "java/lang/invoke/MethodHandle" ∧ yX12_feed.cls ≠ "java/lang/invoke/VarHandle" ∧ (parseMethodDescriptor yX12_feed.desc).map (fun d => d.parameters.length) = some 2 := by decide +kernel
theorem hy_X12_isAlpha : yX12_isAlpha.cls ≠ "java/lang/invoke/MethodHandle" ∧ yX12_isAlpha.cls ≠ "java/lang/invoke/VarHandle" ∧ (parseMethodDescriptor yX12_isAlpha.desc).map (fun d => d.parameters.length) = some 1 := by decide +kernel
theorem hy_X12_isDigit : yX12_isDigit.cls ≠ "java/lang/invoke/MethodHandle" ∧ yX12_isDigit.cls ≠ "java/lang/invoke/VarHandle" ∧ (parseMethodDescriptor yX12_isDigit.desc).map (fun d => d.parameters.length) = some 1 := by decide +kernel
theorem hy_X12_byteAt : yX12_byteAt.cls ≠ "java/lang/invoke/MethodHandle" ∧ yX12_byteAt.cls ≠ "java/lang/invoke/VarHandle" ∧ (parseMethodDescriptor yX12_byteAt.desc).map (fun d => d.parameters.length) = some 1 := by decide +kernel
theorem hy_X12_nextToken : yX12_nextToken.cls ≠ "java/lang/invoke/MethodHandle" ∧ yX12_nextToken.cls ≠ "java/lang/invoke/VarHandle" ∧ (parseMethodDescriptor yX12_nextToken.desc).map (fun d => d.parameters.length) = some 0 := by decide +kernel
theorem hy_X12_needs : yX12_needs.cls ≠ "java/lang/invoke/MethodHandle" ∧ yX12_needs.cls ≠ "java/lang/invoke/VarHandle" ∧ (parseMethodDescriptor yX12_needs.desc).map (fun d => d.parameters.length) = some 1 := by decide +kernel
theorem hy_X12_isByte : yX12_isByte.cls ≠ "java/lang/invoke/MethodHandle" ∧ yX12_isByte.cls ≠ "java/lang/invoke/VarHandle" ∧ (parseMethodDescriptor yX12_isByte.desc).map (fun d => d.parameters.length) = some 1 := by decide +kernel
theorem hy_X12_isName : yX12_isName.cls ≠ "java/lang/invoke/MethodHandle" ∧ yX12_isName.cls ≠ "java/lang/invoke/VarHandle" ∧ (parseMethodDescriptor yX12_isName.desc).map (fun d => d.parameters.length) = some 5 := by decide +kernel
theorem hy_X12_isSame : yX12_isSame.cls ≠ "java/lang/invoke/MethodHandle" ∧ yX12_isSame.cls ≠ "java/lang/invoke/VarHandle" ∧ (parseMethodDescriptor yX12_isSame.desc).map (fun d => d.parameters.length) = some 4 := by decide +kernel
theorem hy_X12_kindHere : yX12_kindHere.cls ≠ "java/lang/invoke/MethodHandle" ∧ yX12_kindHere.cls ≠ "java/lang/invoke/VarHandle" ∧ (parseMethodDescriptor yX12_kindHere.desc).map (fun d => d.parameters.length) = some 0 := by decide +kernel
theorem hy_X12_doHere : yX12_doHere.cls ≠ "java/lang/invoke/MethodHandle" ∧ yX12_doHere.cls ≠ "java/lang/invoke/VarHandle" ∧ (parseMethodDescriptor yX12_doHere.desc).map (fun d => d.parameters.length) = some 0 := by decide +kernel
theorem hy_X12_factHere : yX12_factHere.cls ≠ "java/lang/invoke/MethodHandle" ∧ yX12_factHere.cls ≠ "java/lang/invoke/VarHandle" ∧ (parseMethodDescriptor yX12_factHere.desc).map (fun d => d.parameters.length) = some 0 := by decide +kernel
theorem hy_X12_isTwo : yX12_isTwo.cls ≠ "java/lang/invoke/MethodHandle" ∧ yX12_isTwo.cls ≠ "java/lang/invoke/VarHandle" ∧ (parseMethodDescriptor yX12_isTwo.desc).map (fun d => d.parameters.length) = some 2 := by decide +kernel
theorem hy_X12_steps : yX12_steps.cls ≠ "java/lang/invoke/MethodHandle" ∧ yX12_steps.cls ≠ "java/lang/invoke/VarHandle" ∧ (parseMethodDescriptor yX12_steps.desc).map (fun d => d.parameters.length) = some 3 := by decide +kernel
theorem hy_X12_valueHere : yX12_valueHere.cls ≠ "java/lang/invoke/MethodHandle" ∧ yX12_valueHere.cls ≠ "java/lang/invoke/VarHandle" ∧ (parseMethodDescriptor yX12_valueHere.desc).map (fun d => d.parameters.length) = some 0 := by decide +kernel
theorem hy_X12_comparesHere : yX12_comparesHere.cls ≠ "java/lang/invoke/MethodHandle" ∧ yX12_comparesHere.cls ≠ "java/lang/invoke/VarHandle" ∧ (parseMethodDescriptor yX12_comparesHere.desc).map (fun d => d.parameters.length) = some 0 := by decide +kernel
theorem hy_X12_oneHere : yX12_oneHere.cls ≠ "java/lang/invoke/MethodHandle" ∧ yX12_oneHere.cls ≠ "java/lang/invoke/VarHandle" ∧ (parseMethodDescriptor yX12_oneHere.desc).map (fun d => d.parameters.length) = some 0 := by decide +kernel
theorem hy_X12_allHere : yX12_allHere.cls ≠ "java/lang/invoke/MethodHandle" ∧ yX12_allHere.cls ≠ "java/lang/invoke/VarHandle" ∧ (parseMethodDescriptor yX12_allHere.desc).map (fun d => d.parameters.length) = some 0 := by decide +kernel
theorem hy_X12_condHere : yX12_condHere.cls ≠ "java/lang/invoke/MethodHandle" ∧ yX12_condHere.cls ≠ "java/lang/invoke/VarHandle" ∧ (parseMethodDescriptor yX12_condHere.desc).map (fun d => d.parameters.length) = some 0 := by decide +kernel
theorem hy_X12_ruleHere : yX12_ruleHere.cls ≠ "java/lang/invoke/MethodHandle" ∧ yX12_ruleHere.cls ≠ "java/lang/invoke/VarHandle" ∧ (parseMethodDescriptor yX12_ruleHere.desc).map (fun d => d.parameters.length) = some 0 := by decide +kernel
theorem hy_X12_rules : yX12_rules.cls ≠ "java/lang/invoke/MethodHandle" ∧ yX12_rules.cls ≠ "java/lang/invoke/VarHandle" ∧ (parseMethodDescriptor yX12_rules.desc).map (fun d => d.parameters.length) = some 0 := by decide +kernel
theorem hy_X12_doesBy : yX12_doesBy.cls ≠ "java/lang/invoke/MethodHandle" ∧ yX12_doesBy.cls ≠ "java/lang/invoke/VarHandle" ∧ (parseMethodDescriptor yX12_doesBy.desc).map (fun d => d.parameters.length) = some 2 := by decide +kernel
theorem hy_X12_goesWith : yX12_goesWith.cls ≠ "java/lang/invoke/MethodHandle" ∧ yX12_goesWith.cls ≠ "java/lang/invoke/VarHandle" ∧ (parseMethodDescriptor yX12_goesWith.desc).map (fun d => d.parameters.length) = some 1 := by decide +kernel
theorem hy_X12_restAct : yX12_restAct.cls ≠ "java/lang/invoke/MethodHandle" ∧ yX12_restAct.cls ≠ "java/lang/invoke/VarHandle" ∧ (parseMethodDescriptor yX12_restAct.desc).map (fun d => d.parameters.length) = some 0 := by decide +kernel
theorem hy_X12_minute : yX12_minute.cls ≠ "java/lang/invoke/MethodHandle" ∧ yX12_minute.cls ≠ "java/lang/invoke/VarHandle" ∧ (parseMethodDescriptor yX12_minute.desc).map (fun d => d.parameters.length) = some 0 := by decide +kernel
theorem hy_X12_onBy : yX12_onBy.cls ≠ "java/lang/invoke/MethodHandle" ∧ yX12_onBy.cls ≠ "java/lang/invoke/VarHandle" ∧ (parseMethodDescriptor yX12_onBy.desc).map (fun d => d.parameters.length) = some 1 := by decide +kernel
theorem hy_X12_on : yX12_on.cls ≠ "java/lang/invoke/MethodHandle" ∧ yX12_on.cls ≠ "java/lang/invoke/VarHandle" ∧ (parseMethodDescriptor yX12_on.desc).map (fun d => d.parameters.length) = some 1 := by decide +kernel
theorem hy_X12_when : yX12_when.cls ≠ "java/lang/invoke/MethodHandle" ∧ yX12_when.cls ≠ "java/lang/invoke/VarHandle" ∧ (parseMethodDescriptor yX12_when.desc).map (fun d => d.parameters.length) = some 1 := by decide +kernel
theorem hy_X12_valueFor : yX12_valueFor.cls ≠ "java/lang/invoke/MethodHandle" ∧ yX12_valueFor.cls ≠ "java/lang/invoke/VarHandle" ∧ (parseMethodDescriptor yX12_valueFor.desc).map (fun d => d.parameters.length) = some 4 := by decide +kernel
theorem hy_X12_weightFor : yX12_weightFor.cls ≠ "java/lang/invoke/MethodHandle" ∧ yX12_weightFor.cls ≠ "java/lang/invoke/VarHandle" ∧ (parseMethodDescriptor yX12_weightFor.desc).map (fun d => d.parameters.length) = some 1 := by decide +kernel
theorem hy_X12_machineFor : yX12_machineFor.cls ≠ "java/lang/invoke/MethodHandle" ∧ yX12_machineFor.cls ≠ "java/lang/invoke/VarHandle" ∧ (parseMethodDescriptor yX12_machineFor.desc).map (fun d => d.parameters.length) = some 1 := by decide +kernel
theorem hy_X12_isSet : yX12_isSet.cls ≠ "java/lang/invoke/MethodHandle" ∧ yX12_isSet.cls ≠ "java/lang/invoke/VarHandle" ∧ (parseMethodDescriptor yX12_isSet.desc).map (fun d => d.parameters.length) = some 1 := by decide +kernel
theorem hy_X12_canAll : yX12_canAll.cls ≠ "java/lang/invoke/MethodHandle" ∧ yX12_canAll.cls ≠ "java/lang/invoke/VarHandle" ∧ (parseMethodDescriptor yX12_canAll.desc).map (fun d => d.parameters.length) = some 3 := by decide +kernel
theorem hy_X12_gathersBy : yX12_gathersBy.cls ≠ "java/lang/invoke/MethodHandle" ∧ yX12_gathersBy.cls ≠ "java/lang/invoke/VarHandle" ∧ (parseMethodDescriptor yX12_gathersBy.desc).map (fun d => d.parameters.length) = some 1 := by decide +kernel
theorem hy_X12_gather : yX12_gather.cls ≠ "java/lang/invoke/MethodHandle" ∧ yX12_gather.cls ≠ "java/lang/invoke/VarHandle" ∧ (parseMethodDescriptor yX12_gather.desc).map (fun d => d.parameters.length) = some 1 := by decide +kernel
theorem hy_X12_gathered : yX12_gathered.cls ≠ "java/lang/invoke/MethodHandle" ∧ yX12_gathered.cls ≠ "java/lang/invoke/VarHandle" ∧ (parseMethodDescriptor yX12_gathered.desc).map (fun d => d.parameters.length) = some 2 := by decide +kernel
theorem hy_X12_free : yX12_free.cls ≠ "java/lang/invoke/MethodHandle" ∧ yX12_free.cls ≠ "java/lang/invoke/VarHandle" ∧ (parseMethodDescriptor yX12_free.desc).map (fun d => d.parameters.length) = some 2 := by decide +kernel
theorem hy_X12_takenIn : yX12_takenIn.cls ≠ "java/lang/invoke/MethodHandle" ∧ yX12_takenIn.cls ≠ "java/lang/invoke/VarHandle" ∧ (parseMethodDescriptor yX12_takenIn.desc).map (fun d => d.parameters.length) = some 1 := by decide +kernel
theorem hy_X12_busiest : yX12_busiest.cls ≠ "java/lang/invoke/MethodHandle" ∧ yX12_busiest.cls ≠ "java/lang/invoke/VarHandle" ∧ (parseMethodDescriptor yX12_busiest.desc).map (fun d => d.parameters.length) = some 1 := by decide +kernel
theorem hy_X12_plans : yX12_plans.cls ≠ "java/lang/invoke/MethodHandle" ∧ yX12_plans.cls ≠ "java/lang/invoke/VarHandle" ∧ (parseMethodDescriptor yX12_plans.desc).map (fun d => d.parameters.length) = some 5 := by decide +kernel
theorem hy_X12_findsPlans : yX12_findsPlans.cls ≠ "java/lang/invoke/MethodHandle" ∧ yX12_findsPlans.cls ≠ "java/lang/invoke/VarHandle" ∧ (parseMethodDescriptor yX12_findsPlans.desc).map (fun d => d.parameters.length) = some 2 := by decide +kernel
theorem hy_X12_isLong : yX12_isLong.cls ≠ "java/lang/invoke/MethodHandle" ∧ yX12_isLong.cls ≠ "java/lang/invoke/VarHandle" ∧ (parseMethodDescriptor yX12_isLong.desc).map (fun d => d.parameters.length) = some 1 := by decide +kernel
theorem hy_X12_best : yX12_best.cls ≠ "java/lang/invoke/MethodHandle" ∧ yX12_best.cls ≠ "java/lang/invoke/VarHandle" ∧ (parseMethodDescriptor yX12_best.desc).map (fun d => d.parameters.length) = some 1 := by decide +kernel
theorem hy_X12_ith : yX12_ith.cls ≠ "java/lang/invoke/MethodHandle" ∧ yX12_ith.cls ≠ "java/lang/invoke/VarHandle" ∧ (parseMethodDescriptor yX12_ith.desc).map (fun d => d.parameters.length) = some 2 := by decide +kernel
theorem hy_X12_ways : yX12_ways.cls ≠ "java/lang/invoke/MethodHandle" ∧ yX12_ways.cls ≠ "java/lang/invoke/VarHandle" ∧ (parseMethodDescriptor yX12_ways.desc).map (fun d => d.parameters.length) = some 1 := by decide +kernel
theorem hy_X12_train : yX12_train.cls ≠ "java/lang/invoke/MethodHandle" ∧ yX12_train.cls ≠ "java/lang/invoke/VarHandle" ∧ (parseMethodDescriptor yX12_train.desc).map (fun d => d.parameters.length) = some 2 := by decide +kernel
theorem hy_X12_bars : yX12_bars.cls ≠ "java/lang/invoke/MethodHandle" ∧ yX12_bars.cls ≠ "java/lang/invoke/VarHandle" ∧ (parseMethodDescriptor yX12_bars.desc).map (fun d => d.parameters.length) = some 2 := by decide +kernel
theorem hy_X12_valueFrom : yX12_valueFrom.cls ≠ "java/lang/invoke/MethodHandle" ∧ yX12_valueFrom.cls ≠ "java/lang/invoke/VarHandle" ∧ (parseMethodDescriptor yX12_valueFrom.desc).map (fun d => d.parameters.length) = some 2 := by decide +kernel
theorem hy_X12_game : yX12_game.cls ≠ "java/lang/invoke/MethodHandle" ∧ yX12_game.cls ≠ "java/lang/invoke/VarHandle" ∧ (parseMethodDescriptor yX12_game.desc).map (fun d => d.parameters.length) = some 1 := by decide +kernel
theorem hy_X12_play : yX12_play.cls ≠ "java/lang/invoke/MethodHandle" ∧ yX12_play.cls ≠ "java/lang/invoke/VarHandle" ∧ (parseMethodDescriptor yX12_play.desc).map (fun d => d.parameters.length) = some 1 := by decide +kernel
theorem hy_X12_report : yX12_report.cls ≠ "java/lang/invoke/MethodHandle" ∧ yX12_report.cls ≠ "java/lang/invoke/VarHandle" ∧ (parseMethodDescriptor yX12_report.desc).map (fun d => d.parameters.length) = some 3 := by decide +kernel
theorem hy_X12_forget : yX12_forget.cls ≠ "java/lang/invoke/MethodHandle" ∧ yX12_forget.cls ≠ "java/lang/invoke/VarHandle" ∧ (parseMethodDescriptor yX12_forget.desc).map (fun d => d.parameters.length) = some 0 := by decide +kernel
theorem hy_X12_isFit : yX12_isFit.cls ≠ "java/lang/invoke/MethodHandle" ∧ yX12_isFit.cls ≠ "java/lang/invoke/VarHandle" ∧ (parseMethodDescriptor yX12_isFit.desc).map (fun d => d.parameters.length) = some 2 := by decide +kernel
theorem hy_X12_findsFits : yX12_findsFits.cls ≠ "java/lang/invoke/MethodHandle" ∧ yX12_findsFits.cls ≠ "java/lang/invoke/VarHandle" ∧ (parseMethodDescriptor yX12_findsFits.desc).map (fun d => d.parameters.length) = some 1 := by decide +kernel
theorem hy_X12_span : yX12_span.cls ≠ "java/lang/invoke/MethodHandle" ∧ yX12_span.cls ≠ "java/lang/invoke/VarHandle" ∧ (parseMethodDescriptor yX12_span.desc).map (fun d => d.parameters.length) = some 1 := by decide +kernel
theorem hy_X12_liar : yX12_liar.cls ≠ "java/lang/invoke/MethodHandle" ∧ yX12_liar.cls ≠ "java/lang/invoke/VarHandle" ∧ (parseMethodDescriptor yX12_liar.desc).map (fun d => d.parameters.length) = some 0 := by decide +kernel
theorem hy_X12_seed : yX12_seed.cls ≠ "java/lang/invoke/MethodHandle" ∧ yX12_seed.cls ≠ "java/lang/invoke/VarHandle" ∧ (parseMethodDescriptor yX12_seed.desc).map (fun d => d.parameters.length) = some 1 := by decide +kernel
theorem hy_X12_goesByLot : yX12_goesByLot.cls ≠ "java/lang/invoke/MethodHandle" ∧ yX12_goesByLot.cls ≠ "java/lang/invoke/VarHandle" ∧ (parseMethodDescriptor yX12_goesByLot.desc).map (fun d => d.parameters.length) = some 0 := by decide +kernel
theorem hy_X12_lot : yX12_lot.cls ≠ "java/lang/invoke/MethodHandle" ∧ yX12_lot.cls ≠ "java/lang/invoke/VarHandle" ∧ (parseMethodDescriptor yX12_lot.desc).map (fun d => d.parameters.length) = some 0 := by decide +kernel
theorem hy_X12_times : yX12_times.cls ≠ "java/lang/invoke/MethodHandle" ∧ yX12_times.cls ≠ "java/lang/invoke/VarHandle" ∧ (parseMethodDescriptor yX12_times.desc).map (fun d => d.parameters.length) = some 2 := by decide +kernel
theorem hy_X12_prove : yX12_prove.cls ≠ "java/lang/invoke/MethodHandle" ∧ yX12_prove.cls ≠ "java/lang/invoke/VarHandle" ∧ (parseMethodDescriptor yX12_prove.desc).map (fun d => d.parameters.length) = some 1 := by decide +kernel
theorem hy_X12_isRow : yX12_isRow.cls ≠ "java/lang/invoke/MethodHandle" ∧ yX12_isRow.cls ≠ "java/lang/invoke/VarHandle" ∧ (parseMethodDescriptor yX12_isRow.desc).map (fun d => d.parameters.length) = some 2 := by decide +kernel
theorem hy_X12_row : yX12_row.cls ≠ "java/lang/invoke/MethodHandle" ∧ yX12_row.cls ≠ "java/lang/invoke/VarHandle" ∧ (parseMethodDescriptor yX12_row.desc).map (fun d => d.parameters.length) = some 2 := by decide +kernel
theorem hy_X12_alterRow : yX12_alterRow.cls ≠ "java/lang/invoke/MethodHandle" ∧ yX12_alterRow.cls ≠ "java/lang/invoke/VarHandle" ∧ (parseMethodDescriptor yX12_alterRow.desc).map (fun d => d.parameters.length) = some 3 := by decide +kernel
theorem hy_X12_isAct : yX12_isAct.cls ≠ "java/lang/invoke/MethodHandle" ∧ yX12_isAct.cls ≠ "java/lang/invoke/VarHandle" ∧ (parseMethodDescriptor yX12_isAct.desc).map (fun d => d.parameters.length) = some 1 := by decide +kernel
theorem hy_X12_judge : yX12_judge.cls ≠ "java/lang/invoke/MethodHandle" ∧ yX12_judge.cls ≠ "java/lang/invoke/VarHandle" ∧ (parseMethodDescriptor yX12_judge.desc).map (fun d => d.parameters.length) = some 0 := by decide +kernel
theorem hy_X12_isSheet : yX12_isSheet.cls ≠ "java/lang/invoke/MethodHandle" ∧ yX12_isSheet.cls ≠ "java/lang/invoke/VarHandle" ∧ (parseMethodDescriptor yX12_isSheet.desc).map (fun d => d.parameters.length) = some 1 := by decide +kernel
theorem hy_X12_isShelf : yX12_isShelf.cls ≠ "java/lang/invoke/MethodHandle" ∧ yX12_isShelf.cls ≠ "java/lang/invoke/VarHandle" ∧ (parseMethodDescriptor yX12_isShelf.desc).map (fun d => d.parameters.length) = some 1 := by decide +kernel
theorem hy_X12_sheet : yX12_sheet.cls ≠ "java/lang/invoke/MethodHandle" ∧ yX12_sheet.cls ≠ "java/lang/invoke/VarHandle" ∧ (parseMethodDescriptor yX12_sheet.desc).map (fun d => d.parameters.length) = some 3 := by decide +kernel
theorem hy_X12_write : yX12_write.cls ≠ "java/lang/invoke/MethodHandle" ∧ yX12_write.cls ≠ "java/lang/invoke/VarHandle" ∧ (parseMethodDescriptor yX12_write.desc).map (fun d => d.parameters.length) = some 3 := by decide +kernel
theorem hy_X12_lacks : yX12_lacks.cls ≠ "java/lang/invoke/MethodHandle" ∧ yX12_lacks.cls ≠ "java/lang/invoke/VarHandle" ∧ (parseMethodDescriptor yX12_lacks.desc).map (fun d => d.parameters.length) = some 2 := by decide +kernel
theorem hy_X12_item : yX12_item.cls ≠ "java/lang/invoke/MethodHandle" ∧ yX12_item.cls ≠ "java/lang/invoke/VarHandle" ∧ (parseMethodDescriptor yX12_item.desc).map (fun d => d.parameters.length) = some 3 := by decide +kernel
theorem hy_X12_goAll : yX12_goAll.cls ≠ "java/lang/invoke/MethodHandle" ∧ yX12_goAll.cls ≠ "java/lang/invoke/VarHandle" ∧ (parseMethodDescriptor yX12_goAll.desc).map (fun d => d.parameters.length) = some 3 := by decide +kernel
theorem hy_X12_sumBy : yX12_sumBy.cls ≠ "java/lang/invoke/MethodHandle" ∧ yX12_sumBy.cls ≠ "java/lang/invoke/VarHandle" ∧ (parseMethodDescriptor yX12_sumBy.desc).map (fun d => d.parameters.length) = some 3 := by decide +kernel
theorem hy_X12_wouldBe : yX12_wouldBe.cls ≠ "java/lang/invoke/MethodHandle" ∧ yX12_wouldBe.cls ≠ "java/lang/invoke/VarHandle" ∧ (parseMethodDescriptor yX12_wouldBe.desc).map (fun d => d.parameters.length) = some 3 := by decide +kernel
theorem hy_X12_shelf : yX12_shelf.cls ≠ "java/lang/invoke/MethodHandle" ∧ yX12_shelf.cls ≠ "java/lang/invoke/VarHandle" ∧ (parseMethodDescriptor yX12_shelf.desc).map (fun d => d.parameters.length) = some 3 := by decide +kernel
theorem hy_X12_heldOn : yX12_heldOn.cls ≠ "java/lang/invoke/MethodHandle" ∧ yX12_heldOn.cls ≠ "java/lang/invoke/VarHandle" ∧ (parseMethodDescriptor yX12_heldOn.desc).map (fun d => d.parameters.length) = some 1 := by decide +kernel
theorem hy_X12_taken : yX12_taken.cls ≠ "java/lang/invoke/MethodHandle" ∧ yX12_taken.cls ≠ "java/lang/invoke/VarHandle" ∧ (parseMethodDescriptor yX12_taken.desc).map (fun d => d.parameters.length) = some 2 := by decide +kernel
theorem hy_X12_runs : yX12_runs.cls ≠ "java/lang/invoke/MethodHandle" ∧ yX12_runs.cls ≠ "java/lang/invoke/VarHandle" ∧ (parseMethodDescriptor yX12_runs.desc).map (fun d => d.parameters.length) = some 1 := by decide +kernel
theorem hy_X12_liftsPlain : yX12_liftsPlain.cls ≠ "java/lang/invoke/MethodHandle" ∧ yX12_liftsPlain.cls ≠ "java/lang/invoke/VarHandle" ∧ (parseMethodDescriptor yX12_liftsPlain.desc).map (fun d => d.parameters.length) = some 1 := by decide +kernel
theorem hy_X12_lifts : yX12_lifts.cls ≠ "java/lang/invoke/MethodHandle" ∧ yX12_lifts.cls ≠ "java/lang/invoke/VarHandle" ∧ (parseMethodDescriptor yX12_lifts.desc).map (fun d => d.parameters.length) = some 1 := by decide +kernel
theorem hy_X12_groansPlain : yX12_groansPlain.cls ≠ "java/lang/invoke/MethodHandle" ∧ yX12_groansPlain.cls ≠ "java/lang/invoke/VarHandle" ∧ (parseMethodDescriptor yX12_groansPlain.desc).map (fun d => d.parameters.length) = some 1 := by decide +kernel
theorem hy_X12_groans : yX12_groans.cls ≠ "java/lang/invoke/MethodHandle" ∧ yX12_groans.cls ≠ "java/lang/invoke/VarHandle" ∧ (parseMethodDescriptor yX12_groans.desc).map (fun d => d.parameters.length) = some 1 := by decide +kernel
theorem hy_X12_partsPlain : yX12_partsPlain.cls ≠ "java/lang/invoke/MethodHandle" ∧ yX12_partsPlain.cls ≠ "java/lang/invoke/VarHandle" ∧ (parseMethodDescriptor yX12_partsPlain.desc).map (fun d => d.parameters.length) = some 1 := by decide +kernel
theorem hy_X12_partsHeld : yX12_partsHeld.cls ≠ "java/lang/invoke/MethodHandle" ∧ yX12_partsHeld.cls ≠ "java/lang/invoke/VarHandle" ∧ (parseMethodDescriptor yX12_partsHeld.desc).map (fun d => d.parameters.length) = some 1 := by decide +kernel
theorem hy_X12_parts : yX12_parts.cls ≠ "java/lang/invoke/MethodHandle" ∧ yX12_parts.cls ≠ "java/lang/invoke/VarHandle" ∧ (parseMethodDescriptor yX12_parts.desc).map (fun d => d.parameters.length) = some 1 := by decide +kernel
theorem hy_X12_wipesPlain : yX12_wipesPlain.cls ≠ "java/lang/invoke/MethodHandle" ∧ yX12_wipesPlain.cls ≠ "java/lang/invoke/VarHandle" ∧ (parseMethodDescriptor yX12_wipesPlain.desc).map (fun d => d.parameters.length) = some 1 := by decide +kernel
theorem hy_X12_wipes : yX12_wipes.cls ≠ "java/lang/invoke/MethodHandle" ∧ yX12_wipes.cls ≠ "java/lang/invoke/VarHandle" ∧ (parseMethodDescriptor yX12_wipes.desc).map (fun d => d.parameters.length) = some 1 := by decide +kernel
theorem hy_X12_act : yX12_act.cls ≠ "java/lang/invoke/MethodHandle" ∧ yX12_act.cls ≠ "java/lang/invoke/VarHandle" ∧ (parseMethodDescriptor yX12_act.desc).map (fun d => d.parameters.length) = some 3 := by decide +kernel
theorem hy_X12_trace : yX12_trace.cls ≠ "java/lang/invoke/MethodHandle" ∧ yX12_trace.cls ≠ "java/lang/invoke/VarHandle" ∧ (parseMethodDescriptor yX12_trace.desc).map (fun d => d.parameters.length) = some 1 := by decide +kernel
theorem hy_X12_many : yX12_many.cls ≠ "java/lang/invoke/MethodHandle" ∧ yX12_many.cls ≠ "java/lang/invoke/VarHandle" ∧ (parseMethodDescriptor yX12_many.desc).map (fun d => d.parameters.length) = some 1 := by decide +kernel
theorem hy_X12_keep : yX12_keep.cls ≠ "java/lang/invoke/MethodHandle" ∧ yX12_keep.cls ≠ "java/lang/invoke/VarHandle" ∧ (parseMethodDescriptor yX12_keep.desc).map (fun d => d.parameters.length) = some 0 := by decide +kernel
theorem hy_X12_again : yX12_again.cls ≠ "java/lang/invoke/MethodHandle" ∧ yX12_again.cls ≠ "java/lang/invoke/VarHandle" ∧ (parseMethodDescriptor yX12_again.desc).map (fun d => d.parameters.length) = some 0 := by decide +kernel
theorem hy_J6_bitCount_0f7a4 : yJ6_bitCount_0f7a4.cls ≠ "java/lang/invoke/MethodHandle" ∧ yJ6_bitCount_0f7a4.cls ≠ "java/lang/invoke/VarHandle" ∧ (parseMethodDescriptor yJ6_bitCount_0f7a4.desc).map (fun d => d.parameters.length) = some 1 := by decide +kernel
section RW2
variable {p : Program} {l : Launch} {e : Env} {R : Room} {s : State} {m0 : MethodId} {args : Array Value} {below : List Frame} {meth : Method} {c : Code} {H : Heap} {locs : List Loc} {Q : State → Prop}
variable {lay : Lay} {N : Nat} {D : va_G} {cA : Nat → ClassId} {A : Nat → Nat} {m m1 : Mm} {own : String} {cc : ByteArray} {nL : Nat} {ret : Option FieldType} {pc : Nat} {ls : Array Slot} {rest : List Value}
theorem r_aretk {q : Nat} {r : Nat} {m' : Mm} {n : String} (X : CX lay N D cA A p s m0 args meth c own cc nL (some (.object n))) (hP : va_P D vwCl (wsOf lay N cA A m) H) (hS : va_S (AW N A) s.heap H locs) (hd : decode cc pc = .ok (.areturn, 1)) (h : some (q, m) = some (r, m')) : W p l e R s m0 args below meth c H locs 0 0 (ZR below args s lay N D cA A (some (.ref (A (kp r)))) m') (F0 m0 pc ls [.ref (A (kp q))]) := by
  cases h
  exact W.aret (v := .ref (A (kp q))) X.1 X.2.1 X.2.2.2.2.2.1 (Or.inl ⟨n, rfl⟩) (Or.inr ⟨_, rfl⟩) (fun t ht hW => ⟨rfl, cx_end X hP hS ht hW⟩) hS.2.2 hd X.2.2.2.2.2.2.1
theorem r_row {q n q' j : Nat} {g : Nat → Nat} {i : Int32} (X : CX lay N D cA A p s m0 args meth c own cc nL ret) (hP : va_P D vwCl (wsOf lay N cA A m) H) (hq : q < N) (hL : lay cA A q (m q) = arQ (cA 2) n (fun j => if j < n then some (A (g j)) else none)) (hin : vp_in i n) (hj : i.toNatClampNeg = j) (hlt : j < n) (hg : g j = q') (hd : decode cc pc = .ok (.aaload, 1))
    (kk : W p l e R s m0 args below meth c H locs 0 0 Q (F0 m0 (pc + 1) ls (.ref (A q') :: rest))) : W p l e R s m0 args below meth c H locs 0 0 Q (F0 m0 pc ls (.int i :: .ref (A q) :: rest)) := r_aald2 X hP hq hL hin (aq hj hlt hg) hd kk
theorem r_rowq (t : Nat) {q n q' j : Nat} {g : Nat → Nat} {i : Int32} {C : String} (ht : (tysOf cA)[t]? = some (cA t, .object C)) (X : CX lay N D cA A p s m0 args meth c own cc nL ret) (hP : va_P D vwCl (wsOf lay N cA A m) H) (hq : q < N) (hL : lay cA A q (m q) = arQ (cA t) n (fun j => if j < n then some (A (g j)) else none)) (hin : vp_in i n) (hj : i.toNatClampNeg = j) (hlt : j < n) (hg : g j = q') (hd : decode cc pc = .ok (.aaload, 1))
    (kk : W p l e R s m0 args below meth c H locs 0 0 Q (F0 m0 (pc + 1) ls (.ref (A q') :: rest))) : W p l e R s m0 args below meth c H locs 0 0 Q (F0 m0 pc ls (.int i :: .ref (A q) :: rest)) := r_aaldq X hP t ht hq hL hin (aq hj hlt hg) hd kk
theorem r_copy {q0 q1 n0 n1 k idx : Nat} {n : Int32} (X : CX lay N D cA A p s m0 args meth c own cc nL ret) (hP : va_P D vwCl (wsOf lay N cA A m) H) (hS : va_S (AW N A) s.heap H locs) (hz : ls.size = nL) (h0 : q0 < N) (L0 : ∀ f, lay cA A q0 f = arI cA n0 f) (h1 : q1 < N) (L1 : ∀ f, lay cA A q1 f = arI cA n1 f) {nn : Nat} (hc : ¬ n < 0 ∧ n.toNatClampNeg ≤ nn) (hn0 : nn ≤ n0) (hn1 : nn ≤ n1) (hk : n.toNatClampNeg = k)
    (hfr : 1 ≤ R.frames) (hlo : (rest.map fun v => v.category).sum + 18 ≤ R.locals) (w1 : Cond.methodLink own idx arraycopyName ∈ WL) (hd : decode cc pc = .ok (.invokestatic idx, 3)) (hm : m1 = upA m q1 (cpy (m q0) (m q1) k))
    (kk : ∀ (H1 : Heap) (locs1 : List Loc), va_P D vwCl (wsOf lay N cA A m1) H1 → va_S (AW N A) s.heap H1 locs1 → W p l e R s m0 args below meth c H1 locs1 0 0 Q (F0 m0 (pc + 3) ls rest)) : W p l e R s m0 args below meth c H locs 0 0 Q (F0 m0 pc ls (.int n :: .int 0 :: .ref (A q1) :: .int 0 :: .ref (A q0) :: rest)) := by
  subst hk
  subst hm
  have z0 : (0 : Int32).toNatClampNeg = 0 := ixc_0
  refine va_copyi (ty := .int) X.1 X.2.1 (X.2.2.1.trans hz.symm) X.2.2.2.1 (X.2.2.2.2.1 _ w1) (X.2.2.2.2.1 _ wt_3_208) (X.2.2.2.2.1 _ wt_3_207) (X.2.2.2.2.1 _ wt_1_18) X.2.2.2.2.2.2.2.1 hP (ws_D X.2.2.2.2.2.2.2.2.2) hS q0 q1 0 0 (by rw [ws_get h0, L0]) (by rw [ws_get h1, L1]) rfl rfl rfl (by decide) (by decide) hc.1 (by rw [z0]; omega) (by rw [z0]; omega) (fun _ _ => rfl) hfr hlo hd (fun H1 locs1 g1 g2 g3 => kk H1 locs1 ?_ g3)
  rw [z0, cpy_va] at g1
  have e9 : (Sum.inl (cA 0, n1, Sum.inl (cpy (m q0) (m q1) n.toNatClampNeg)) : va_E) = lay cA A q1 (cpy (m q0) (m q1) n.toNatClampNeg) := (L1 _).symm
  rw [e9, ws_set h1] at g1
  exact g1
end RW2
