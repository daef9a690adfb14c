/-! THE RULES: the conditions, in both -/
def factS (s : Nat → Int32) (o f : Nat) : Int32 := if f = 0 then s 1 else if f = 1 then s (8 + 5 * o + 2) else if f = 2 then s (38 + ix (s (8 + 5 * o + 3))) else if f = 3 then s (8 + 5 * o + 4) else nI o
/-- an operand, as the reference has it -/
def OpOk (y : Int32) : Prop := Bd 0 10004 y ∧ (∃ v, v ≤ 9999 ∧ y = nI v ∨ v ≤ 4 ∧ y = nI (10000 + v))
def OpIs (l y : Int32) : Prop := (∃ v, v ≤ 9999 ∧ l = nI v ∧ y = nI v) ∨ (∃ f, f ≤ 4 ∧ l = -1 - nI f ∧ y = nI (10000 + f))
def opS (s : Nat → Int32) (o : Nat) (y : Int32) : Int32 := if ix y ≤ 9999 then y else factS s o (ix y - 10000)
def StepIs (a l r x y z : Int32) : Prop := (x = 0 ∧ a = 316 ∧ OpIs l y ∧ OpIs r z) ∨ (x = 1 ∧ a = 317 ∧ OpIs l y ∧ OpIs r z) ∨ (x = 2 ∧ a = 318 ∧ OpIs l y ∧ OpIs r z) ∨ (x = 3 ∧ a = 12) ∨ (x = 4 ∧ a = 11) ∨ (x = 5 ∧ a = 10)
def cmpS (s : Nat → Int32) (o : Nat) (x y z : Int32) : Bool := if x = 0 then decide (opS s o y < opS s o z) else if x = 1 then decide (opS s o y = opS s o z) else decide (opS s o z < opS s o y)
def stS (s : Nat → Int32) (o k v : Nat) : Nat :=
  if s (103 + 3 * k) = 3 then v ^^^ 1 else if s (103 + 3 * k) = 4 then andN v else if s (103 + 3 * k) = 5 then orN v
  else 2 * v + (if cmpS s o (s (103 + 3 * k)) (s (103 + 3 * k + 1)) (s (103 + 3 * k + 2)) then 1 else 0)
def runS (s : Nat → Int32) (o : Nat) : Nat → Nat → Nat → Nat
  | _, 0, v => v
  | k, d + 1, v => runS s o (k + 1) d (stS s o k v)
def cmpN (s : Nat → Int32) : Nat → Nat → Nat
  | _, 0 => 0
  | k, d + 1 => (if s (103 + 3 * k) = 3 ∨ s (103 + 3 * k) = 4 ∨ s (103 + 3 * k) = 5 then 0 else 1) + cmpN s (k + 1) d
theorem op_num {y : Nat} (h : y ≤ 9999) (s : Nat → Int32) (o : Nat) : opS s o (nI y) = nI y := by
  unfold opS
  rw [ix_n (by omega), if_pos h]
theorem op_fact {f : Nat} (h : f ≤ 4) (s : Nat → Int32) (o : Nat) : opS s o (nI (10000 + f)) = factS s o f := by
  unfold opS
  rw [ix_n (by omega), if_neg (by omega), show 10000 + f - 10000 = f by omega]
theorem valueOf_r {m : Mm} {o : Nat} (ho : o < 6) (hS : SetOk (m 1) o) {l y : Int32} (h : OpIs l y) : fX12_valueOf y (nI o) m = some (opS (m 1) o y, m) := by
  rcases h with ⟨v, hv, -, rfl⟩ | ⟨f, hf, -, rfl⟩
  · rw [op_num hv]
    unfold fX12_valueOf
    rw [lt_v]
    have ne : ∀ k : Nat, k ≤ 4 → ¬ nI v - 10000 = nI k := by
      intro k hk e
      have e1 := congrArg Int32.toInt e
      rw [show (10000 : Int32) = nI 10000 from rfl, pk_sub_toInt (by omega) (by omega), nI_toInt (by omega)] at e1
      omega
    have n0 : ¬ nI v - 10000 = 0 := ne 0 (by omega)
    have n1 : ¬ nI v - 10000 = 1 := ne 1 (by omega)
    have n2 : ¬ nI v - 10000 = 2 := ne 2 (by omega)
    have n3 : ¬ nI v - 10000 = 3 := ne 3 (by omega)
    have n4 : ¬ nI v - 10000 = 4 := ne 4 (by omega)
    rw [if_neg n0, if_neg n1, if_neg n2, if_neg n3, if_neg n4]
  · rw [op_fact hf]
    unfold fX12_valueOf
    rw [lt_v, show (10000 : Int32) = nI 10000 from rfl, pk_sub (by omega), show 10000 + f - 10000 = f by omega, its2 ho, its3 ho, its4 ho]
    obtain ⟨-, -, -, ⟨u, -, u2, hu⟩, -⟩ := hS
    rcases (show f = 0 ∨ f = 1 ∨ f = 2 ∨ f = 3 ∨ f = 4 by omega) with rfl | rfl | rfl | rfl | rfl
    · simp [factS, nI]
    · simp [factS, nI, bd_s]
    · rw [if_neg (by decide), if_neg (by decide), if_pos (show nI 2 = 2 from rfl), bd_s, hu, show (38 : Int32) = nI 38 from rfl, nI_add, gx_n (by omega) (by decide), ix_n (by omega)]
      simp [factS, hu, ix_n (show u < 2 ^ 31 by omega)]
    · simp [factS, nI, bd_s]
    · simp [factS, nI]
theorem opis_c {m : Mm} {i fi k q : Nat} {s : Nat → Int32} {o : Nat} {l y : Int32} (h : OpIs l y) (hF : ∀ f, f ≤ 4 → m (gp fi 11) f = factS s o f) :
    (l < 0 ∧ vp_in (-1 - l) 5 ∧ m (gp fi 11) (ix (-1 - l)) = opS s o y) ∨ (¬ l < 0 ∧ l = opS s o y) := by
  rcases h with ⟨v, hv, rfl, rfl⟩ | ⟨f, hf, rfl, rfl⟩
  · exact Or.inr ⟨nI_pos (by omega), (op_num hv s o).symm⟩
  · refine Or.inl ?_
    have e : (-1 : Int32) - (-1 - nI f) = nI f := by
      rcases (show f = 0 ∨ f = 1 ∨ f = 2 ∨ f = 3 ∨ f = 4 by omega) with rfl | rfl | rfl | rfl | rfl <;> decide
    rw [e, op_fact hf, ix_n (by omega), hF f hf]
    refine ⟨?_, vp_in_nI (by omega) (by decide), rfl⟩
    rcases (show f = 0 ∨ f = 1 ∨ f = 2 ∨ f = 3 ∨ f = 4 by omega) with rfl | rfl | rfl | rfl | rfl <;> decide
theorem compares_c {m : Mm} {j fi k : Nat} {s : Nat → Int32} {o : Nat} {x y z : Int32} (hk : k < 200) (hF : ∀ f, f ≤ 4 → m (gp fi 11) f = factS s o f)
    (hx : x = 0 ∧ m (rp j 5) k = 316 ∨ x = 1 ∧ m (rp j 5) k = 317 ∨ x = 2 ∧ m (rp j 5) k = 318) (h1 : OpIs (m (rp j 6) k) y) (h2 : OpIs (m (rp j 7) k) z) :
    fX8_compares j fi (nI k) m = some (b2 (cmpS s o x y z), m) := by
  have last : fX8_compares_57 j fi (nI k) (opS s o y) (opS s o z) m = some (b2 (cmpS s o x y z), m) := by
    unfold fX8_compares_57 cmpS
    rw [gx_n hk (by decide), ix_n (by omega)]
    rcases hx with ⟨rfl, e⟩ | ⟨rfl, e⟩ | ⟨rfl, e⟩
    · by_cases c : opS s o z ≤ opS s o y
      · simp [e, c, Int32.not_lt.mpr c, b2]
      · simp [e, c, Int32.not_le.mp c, b2]
    · by_cases c : opS s o y = opS s o z <;> simp [e, c, b2]
    · by_cases c : opS s o y ≤ opS s o z
      · simp [e, c, Int32.not_lt.mpr c, b2]
      · simp [e, c, Int32.not_le.mp c, b2]
  have mid : fX8_compares_28 j fi (nI k) (opS s o y) m = some (b2 (cmpS s o x y z), m) := by
    unfold fX8_compares_28
    rw [gx_n hk (by decide), ix_n (by omega)]
    rcases opis_c (i := 0) (k := 0) (q := 0) h2 hF with ⟨a1, a2, a3⟩ | ⟨a1, a2⟩
    · rw [if_pos a1, gx_l a2, a3]; exact last
    · rw [if_neg a1, a2]; exact last
  unfold fX8_compares
  rw [gx_n hk (by decide), ix_n (by omega)]
  rcases opis_c (i := 0) (k := 0) (q := 0) h1 hF with ⟨a1, a2, a3⟩ | ⟨a1, a2⟩
  · rw [if_pos a1, gx_l a2, a3]; exact mid
  · rw [if_neg a1, a2]; exact mid
/-- a rule's steps, k of them from a on, in a memory and in the row -/
def StepsIs (j : Nat) (m : Mm) (s : Nat → Int32) (n : Nat) : Prop := ∀ k, k < n → StepIs (m (rp j 5) k) (m (rp j 6) k) (m (rp j 7) k) (s (103 + 3 * k)) (s (103 + 3 * k + 1)) (s (103 + 3 * k + 2))
theorem step_sort {a l r x y z : Int32} (h : StepIs a l r x y z) : x = 0 ∨ x = 1 ∨ x = 2 ∨ x = 3 ∨ x = 4 ∨ x = 5 := by
  rcases h with h | h | h | h | h | h
  · exact Or.inl h.1
  · exact Or.inr (Or.inl h.1)
  · exact Or.inr (Or.inr (Or.inl h.1))
  · exact Or.inr (Or.inr (Or.inr (Or.inl h.1)))
  · exact Or.inr (Or.inr (Or.inr (Or.inr (Or.inl h.1))))
  · exact Or.inr (Or.inr (Or.inr (Or.inr (Or.inr h.1))))
theorem stS_lt {s : Nat → Int32} {o k v p : Nat} (h : v < 2 ^ (p + 1)) : stS s o k v < 2 ^ (p + (if s (103 + 3 * k) = 3 ∨ s (103 + 3 * k) = 4 ∨ s (103 + 3 * k) = 5 then 0 else 1) + 1) := by
  unfold stS
  by_cases c3 : s (103 + 3 * k) = 3
  · simp only [c3, if_pos, true_or]; exact xor1_lt h
  · by_cases c4 : s (103 + 3 * k) = 4
    · rw [if_neg c3, if_pos c4, if_pos (Or.inr (Or.inl c4))]; exact andN_lt h
    · by_cases c5 : s (103 + 3 * k) = 5
      · rw [if_neg c3, if_neg c4, if_pos c5, if_pos (Or.inr (Or.inr c5))]; exact orN_lt h
      · rw [if_neg c3, if_neg c4, if_neg c5, if_neg (show ¬ (s (103 + 3 * k) = 3 ∨ s (103 + 3 * k) = 4 ∨ s (103 + 3 * k) = 5) by rintro (h | h | h) <;> contradiction), Nat.pow_succ]
        split <;> omega
theorem holds_c {j fi : Nat} {m : Mm} {s : Nat → Int32} {o r b : Nat} (hr : r < 8) (hto : m (rp j 4) r = nI b) (hb : b ≤ 150) (hF : ∀ f, f ≤ 4 → m (gp fi 11) f = factS s o f) (hS : StepsIs j m s b) :
    ∀ (d n k v p : Nat), k + d = b → d < n → v < 2 ^ (p + 1) → p + cmpN s k d ≤ 60 → fX8_holds_10 j fi n (nI r) (lN v) (nI k) m = some (b2 (decide (runS s o k d v % 2 = 1)), m) := by
  intro d
  induction d with
  | zero =>
    intro n k v p hk hn hv hp
    obtain ⟨n, rfl⟩ : ∃ n', n = n' + 1 := ⟨n - 1, by omega⟩
    have h63 : v < 2 ^ 63 := Nat.lt_of_lt_of_le hv (Nat.pow_le_pow_right (by decide) (by have := hp; unfold cmpN at this; omega))
    rw [fX8_holds_10, gx_n hr (by decide), ix_n (by omega), hto, if_pos (nI_le (by omega) (by omega)), l_one, runS]
    have hc := lg_cmp_one (v := v % 2) (by omega)
    by_cases c : v % 2 = 1
    · rw [if_pos (by rw [hc]; exact c), decide_eq_true c]; rfl
    · rw [if_neg (by rw [hc]; exact c), decide_eq_false c]; rfl
  | succ d ih =>
    intro n k v p hk hn hv hp
    obtain ⟨n, rfl⟩ : ∃ n', n = n' + 1 := ⟨n - 1, by omega⟩
    have hp' : p + ((if s (103 + 3 * k) = 3 ∨ s (103 + 3 * k) = 4 ∨ s (103 + 3 * k) = 5 then 0 else 1) + cmpN s (k + 1) d) ≤ 60 := hp
    have h63 : v < 2 ^ 62 := Nat.lt_of_lt_of_le hv (Nat.pow_le_pow_right (by decide) (by omega))
    have hv2 := stS_lt (s := s) (o := o) (k := k) hv
    have go := ih n (k + 1) (stS s o k v) _ (by omega) (by omega) hv2 (by omega)
    rw [fX8_holds_10, gx_n hr (by decide), ix_n (by omega), hto, if_neg (nI_ge (by omega) (by omega)), l_ushr (by omega), lt_v, gx_n (by omega) (by decide), ix_n (by omega)]
    rw [runS]
    have hst := hS k (by omega)
    rcases hst with ⟨hx, ha, h1, h2⟩ | ⟨hx, ha, h1, h2⟩ | ⟨hx, ha, h1, h2⟩ | ⟨hx, ha⟩ | ⟨hx, ha⟩ | ⟨hx, ha⟩
    · have hc := compares_c (j := j) (fi := fi) (k := k) (m := m) (by omega) hF (Or.inl ⟨hx, ha⟩) h1 h2
      rw [ha, if_neg (by decide), if_neg (by decide), if_neg (by decide), hc, bd_s]
      have e9 : stS s o k v = 2 * v + (if cmpS s o (s (103 + 3 * k)) (s (103 + 3 * k + 1)) (s (103 + 3 * k + 2)) then 1 else 0) := by unfold stS; simp [hx]
      rw [e9] at go ⊢
      rw [← go, ← l_push, ← p1]
      cases cmpS s o (s (103 + 3 * k)) (s (103 + 3 * k + 1)) (s (103 + 3 * k + 2))
      · rw [if_pos (show b2 false = 0 from rfl), fX8_holds_109]; rfl
      · rw [if_neg (show ¬ b2 true = 0 by decide), fX8_holds_109]; rfl
    · have hc := compares_c (j := j) (fi := fi) (k := k) (m := m) (by omega) hF (Or.inr (Or.inl ⟨hx, ha⟩)) h1 h2
      rw [ha, if_neg (by decide), if_neg (by decide), if_neg (by decide), hc, bd_s]
      have e9 : stS s o k v = 2 * v + (if cmpS s o (s (103 + 3 * k)) (s (103 + 3 * k + 1)) (s (103 + 3 * k + 2)) then 1 else 0) := by unfold stS; simp [hx]
      rw [e9] at go ⊢
      rw [← go, ← l_push, ← p1]
      cases cmpS s o (s (103 + 3 * k)) (s (103 + 3 * k + 1)) (s (103 + 3 * k + 2))
      · rw [if_pos (show b2 false = 0 from rfl), fX8_holds_109]; rfl
      · rw [if_neg (show ¬ b2 true = 0 by decide), fX8_holds_109]; rfl
    · have hc := compares_c (j := j) (fi := fi) (k := k) (m := m) (by omega) hF (Or.inr (Or.inr ⟨hx, ha⟩)) h1 h2
      rw [ha, if_neg (by decide), if_neg (by decide), if_neg (by decide), hc, bd_s]
      have e9 : stS s o k v = 2 * v + (if cmpS s o (s (103 + 3 * k)) (s (103 + 3 * k + 1)) (s (103 + 3 * k + 2)) then 1 else 0) := by unfold stS; simp [hx]
      rw [e9] at go ⊢
      rw [← go, ← l_push, ← p1]
      cases cmpS s o (s (103 + 3 * k)) (s (103 + 3 * k + 1)) (s (103 + 3 * k + 2))
      · rw [if_pos (show b2 false = 0 from rfl), fX8_holds_109]; rfl
      · rw [if_neg (show ¬ b2 true = 0 by decide), fX8_holds_109]; rfl
    · have e9 : stS s o k v = v ^^^ 1 := by unfold stS; simp [hx]
      rw [e9] at go ⊢
      rw [ha, if_pos rfl, lt_v, lt_v, p1, show (1 : Int64) = lN 1 from rfl, l_xor]
      exact go
    · have e9 : stS s o k v = andN v := by unfold stS; simp [hx]
      rw [e9] at go ⊢
      rw [ha, if_neg (by decide), if_pos rfl, lt_v, lt_v, p1, l_and_c (by omega)]
      exact go
    · have e9 : stS s o k v = orN v := by unfold stS; simp [hx]
      rw [e9] at go ⊢
      rw [ha, if_neg (by decide), if_neg (by decide), if_pos rfl, lt_v, lt_v, p1, l_one, l_or]
      exact go
theorem holds_r {m : Mm} {s : Nat → Int32} {o r b : Nat} (hs : m 1 = s) (ho : o < 6) (hK : SetOk s o) (hr : r < 8) (hto : s (53 + 4 * r + 3) = nI b) (hb : b ≤ 149)
    {j : Nat} {mc : Mm} (hS : StepsIs j mc s b) :
    ∀ (d n k v p : Nat), k + d = b → d < n → v < 2 ^ (p + 1) → p + cmpN s k d ≤ 60 → fX12_holds_17 n (nI r) (nI o) (lN v) (nI k) m = some (b2 (decide (runS s o k d v % 2 = 1)), m) := by
  subst hs
  intro d
  induction d with
  | zero =>
    intro n k v p hk hn hv hp
    obtain ⟨n, rfl⟩ : ∃ n', n = n' + 1 := ⟨n - 1, by omega⟩
    have h63 : v < 2 ^ 63 := Nat.lt_of_lt_of_le hv (Nat.pow_le_pow_right (by decide) (by have := hp; unfold cmpN at this; omega))
    rw [fX12_holds_17, e_rule, p3, gx_n (by omega) (by decide), ix_n (by omega), hto, if_pos (nI_le (by omega) (by omega)), l_rem h63, runS]
    have hc := lg_cmp_one (v := v % 2) (by omega)
    by_cases c : v % 2 = 1
    · rw [if_pos (by rw [hc]; exact c), decide_eq_true c]; rfl
    · rw [if_neg (by rw [hc]; exact c), decide_eq_false c]; rfl
  | succ d ih =>
    intro n k v p hk hn hv hp
    obtain ⟨n, rfl⟩ : ∃ n', n = n' + 1 := ⟨n - 1, by omega⟩
    have hp' : p + ((if m 1 (103 + 3 * k) = 3 ∨ m 1 (103 + 3 * k) = 4 ∨ m 1 (103 + 3 * k) = 5 then 0 else 1) + cmpN (m 1) (k + 1) d) ≤ 60 := hp
    have h63 : v < 2 ^ 62 := Nat.lt_of_lt_of_le hv (Nat.pow_le_pow_right (by decide) (by omega))
    have hv2 := stS_lt (s := m 1) (o := o) (k := k) hv
    have go := ih n (k + 1) (stS (m 1) o k v) _ (by omega) (by omega) hv2 (by omega)
    rw [fX12_holds_17, e_rule, p3, gx_n (by omega) (by decide), ix_n (by omega), hto, if_neg (nI_ge (by omega) (by omega)), e_step, gx_n (by omega) (by decide), ix_n (by omega), lt_v]
    rw [runS]
    have hst := hS k (by omega)
    have cmpcase : ∀ x : Int32, m 1 (103 + 3 * k) = x → (x = 0 ∨ x = 1 ∨ x = 2) → OpIs (mc (rp j 6) k) (m 1 (103 + 3 * k + 1)) → OpIs (mc (rp j 7) k) (m 1 (103 + 3 * k + 2)) →
        (if (3 : Int32) ≤ x then none else gx (nI (103 + 3 * k) + 1) 553 (bd (fX12_valueOf (m 1 (ix (nI (103 + 3 * k) + 1))) (nI o) m) fun r_33 m_34 => gx (nI (103 + 3 * k) + 2) 553 (bd (fX12_valueOf (m_34 1 (ix (nI (103 + 3 * k) + 2))) (nI o) m_34) fun r_37 m_38 => (if x = 0 then (if r_37 ≤ r_33 then (fX12_holds_150 (fun x1 x2 x3 x5 m => fX12_holds_17 n x1 x2 x3 x5 m) (nI r) (nI o) (lN v) (nI k) 0 m_38) else (fX12_holds_150 (fun x1 x2 x3 x5 m => fX12_holds_17 n x1 x2 x3 x5 m) (nI r) (nI o) (lN v) (nI k) 1 m_38)) else (if x = 1 then (if r_33 = r_37 then (fX12_holds_150 (fun x1 x2 x3 x5 m => fX12_holds_17 n x1 x2 x3 x5 m) (nI r) (nI o) (lN v) (nI k) 1 m_38) else (fX12_holds_150 (fun x1 x2 x3 x5 m => fX12_holds_17 n x1 x2 x3 x5 m) (nI r) (nI o) (lN v) (nI k) 0 m_38)) else (if r_33 ≤ r_37 then (fX12_holds_150 (fun x1 x2 x3 x5 m => fX12_holds_17 n x1 x2 x3 x5 m) (nI r) (nI o) (lN v) (nI k) 0 m_38) else (fX12_holds_150 (fun x1 x2 x3 x5 m => fX12_holds_17 n x1 x2 x3 x5 m) (nI r) (nI o) (lN v) (nI k) 1 m_38)))))))
        = some (b2 (decide (runS (m 1) o (k + 1) d (stS (m 1) o k v) % 2 = 1)), m) := by
      intro x hx hx3 h1 h2
      have fin : ∀ b : Bool, cmpS (m 1) o x (m 1 (103 + 3 * k + 1)) (m 1 (103 + 3 * k + 2)) = b → fX12_holds_150 (fun x1 x2 x3 x5 m => fX12_holds_17 n x1 x2 x3 x5 m) (nI r) (nI o) (lN v) (nI k) (b2 b) m = some (b2 (decide (runS (m 1) o (k + 1) d (stS (m 1) o k v) % 2 = 1)), m) := by
        intro b hb
        have e9 : stS (m 1) o k v = 2 * v + (if b then 1 else 0) := by
          unfold stS
          rw [hx, hb]
          rcases hx3 with rfl | rfl | rfl <;> simp
        rw [← go, e9, fX12_holds_150]
        cases b
        · rw [if_pos (show b2 false = 0 from rfl), fX12_holds_167, lt_v, lt_v, p1, l_dbl, show (0 : Int64) = lN 0 from rfl, lN_add]; rfl
        · rw [if_neg (show ¬ b2 true = 0 by decide), fX12_holds_167, lt_v, lt_v, p1, l_dbl, show (1 : Int64) = lN 1 from rfl, lN_add]; rfl
      have hx4 : ¬ (3 : Int32) ≤ x := by rcases hx3 with rfl | rfl | rfl <;> decide
      rw [if_neg hx4, p1, p2, gx_n (by omega) (by decide), ix_n (by omega), valueOf_r ho hK h1, bd_s, gx_n (by omega) (by decide), ix_n (by omega), valueOf_r ho hK h2, bd_s]
      have hf := fin _ rfl
      unfold cmpS at hf
      rcases hx3 with rfl | rfl | rfl
      · rw [if_pos rfl] at hf ⊢
        by_cases c : opS (m 1) o (m 1 (103 + 3 * k + 2)) ≤ opS (m 1) o (m 1 (103 + 3 * k + 1))
        · rw [decide_eq_false (Int32.not_lt.mpr c)] at hf; rw [if_pos c]; exact hf
        · rw [decide_eq_true (Int32.not_le.mp c)] at hf; rw [if_neg c]; exact hf
      · rw [if_neg (by decide), if_pos rfl] at hf ⊢
        by_cases c : opS (m 1) o (m 1 (103 + 3 * k + 1)) = opS (m 1) o (m 1 (103 + 3 * k + 2))
        · rw [decide_eq_true c] at hf; rw [if_pos c]; exact hf
        · rw [decide_eq_false c] at hf; rw [if_neg c]; exact hf
      · rw [if_neg (by decide), if_neg (by decide)] at hf ⊢
        by_cases c : opS (m 1) o (m 1 (103 + 3 * k + 1)) ≤ opS (m 1) o (m 1 (103 + 3 * k + 2))
        · rw [decide_eq_false (Int32.not_lt.mpr c)] at hf; rw [if_pos c]; exact hf
        · rw [decide_eq_true (Int32.not_le.mp c)] at hf; rw [if_neg c]; exact hf
    rcases hst with ⟨hx, ha, h1, h2⟩ | ⟨hx, ha, h1, h2⟩ | ⟨hx, ha, h1, h2⟩ | ⟨hx, ha⟩ | ⟨hx, ha⟩ | ⟨hx, ha⟩
    · have := cmpcase 0 hx (Or.inl rfl) h1 h2
      rw [if_neg (by decide)] at this
      rw [hx, if_neg (by decide)]
      exact this
    · have := cmpcase 1 hx (Or.inr (Or.inl rfl)) h1 h2
      rw [if_neg (by decide)] at this
      rw [hx, if_neg (by decide)]
      exact this
    · have := cmpcase 2 hx (Or.inr (Or.inr rfl)) h1 h2
      rw [if_neg (by decide)] at this
      rw [hx, if_neg (by decide)]
      exact this
    · have e9 : stS (m 1) o k v = v ^^^ 1 := by unfold stS; simp [hx]
      rw [e9] at go ⊢
      rw [hx, if_pos (by decide), if_pos rfl, lt_v, lt_v, p1, show (1 : Int64) = lN 1 from rfl, l_xor]
      exact go
    · have e9 : stS (m 1) o k v = andN v := by unfold stS; simp [hx]
      rw [e9] at go ⊢
      rw [hx, if_pos (by decide), if_neg (by decide), lt_v, lt_v, if_pos rfl, l_one, l_half (by omega)]
      have hc := lg_cmp_one (v := v % 2) (by omega)
      unfold andN at go ⊢
      by_cases c : v % 2 = 1
      · rw [if_pos c] at go ⊢
        rw [if_pos (by rw [hc]; exact c), lt_v, p1]
        exact go
      · rw [if_neg c] at go ⊢
        rw [if_neg (by rw [hc]; exact c), lt_v, lt_v, p1, l_m2, l_and]
        exact go
    · have e9 : stS (m 1) o k v = orN v := by unfold stS; simp [hx]
      rw [e9] at go ⊢
      rw [hx, if_pos (by decide), if_neg (by decide), lt_v, lt_v, if_neg (by decide), lt_v, lt_v, p1, l_one, l_half (by omega), l_or]
      exact go
