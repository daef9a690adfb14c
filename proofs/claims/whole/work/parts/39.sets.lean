theorem i_le {x y : Int32} : (x ≤ y) = (x.toInt ≤ y.toInt) := propext Int32.le_iff_toInt_le
theorem i_lt {x y : Int32} : (x < y) = (x.toInt < y.toInt) := propext Int32.lt_iff_toInt_lt
theorem toI {n : Nat} (h : n < 2 ^ 31) : (nI n).toInt = (n : Int) := nI_toInt h
/-- a number of a range is a small Nat -/
theorem rng {x : Int32} {lo hi : Nat} (hh : hi < 2 ^ 31) (hl : lo < 2 ^ 31) (h1 : nI lo ≤ x) (h2 : x ≤ nI hi) : Bd lo hi x := by
  rw [i_le, toI hl] at h1
  rw [i_le, toI hh] at h2
  obtain ⟨j, hj, e⟩ := nI_of (x := x) (by rw [i_lt]; show ¬ x.toInt < (0 : Int32).toInt; rw [show (0 : Int32).toInt = 0 from rfl]; omega)
  rw [e, toI hj] at h1 h2
  exact ⟨j, by omega, by omega, e⟩
theorem rngB {x : Int32} {lo hi : Nat} (hh : hi < 2 ^ 31) (hl : lo < 2 ^ 31) (h : (decide (nI lo ≤ x) && decide (x ≤ nI hi)) = true) : Bd lo hi x := by
  rw [Bool.and_eq_true, decide_eq_true_eq, decide_eq_true_eq] at h
  exact rng hh hl h.1 h.2
theorem d_congr {p q : Prop} [Decidable p] [Decidable q] (h : p ↔ q) : decide p = decide q := by simp [h]
/-- a number of a range, or not: the Bool and what it says -/
theorem rngC (x : Int32) {lo hi : Nat} (hh : hi < 2 ^ 31) (hl : lo < 2 ^ 31) : (decide (nI lo ≤ x) && decide (x ≤ nI hi)) = false ∨ (Bd lo hi x ∧ (decide (nI lo ≤ x) && decide (x ≤ nI hi)) = true) := by
  cases h : decide (nI lo ≤ x) && decide (x ≤ nI hi)
  · exact Or.inl rfl
  · exact Or.inr ⟨rngB hh hl h, rfl⟩
theorem isMachine_r (x : Int32) (m : Mm) : fX12_isMachine x m = some (b2 (decide (nI 0 ≤ x) && decide (x ≤ nI 5)), m) := by
  unfold fX12_isMachine
  by_cases c1 : x < 0
  · rw [if_pos c1, decide_eq_false (show ¬ nI 0 ≤ x from Int32.not_le.mpr c1)]; rfl
  · rw [if_neg c1, decide_eq_true (show nI 0 ≤ x from Int32.not_lt.mp c1)]
    by_cases c2 : (6 : Int32) ≤ x
    · rw [if_pos c2, decide_eq_false (show ¬ x ≤ nI 5 by rw [i_le] at c2 ⊢; rw [show (6 : Int32).toInt = 6 from rfl] at c2; rw [show (nI 5).toInt = 5 from rfl]; omega)]; rfl
    · rw [if_neg c2, decide_eq_true (show x ≤ nI 5 by rw [i_le] at c2 ⊢; rw [show (6 : Int32).toInt = 6 from rfl] at c2; rw [show (nI 5).toInt = 5 from rfl]; omega)]; rfl
theorem suits_c {w : Nat} (hw : w < 5) (v : Int32) (m : Mm) : fX11_suits (nI w) v m = some (b2 (decide (sLeast w ≤ v) && decide (v ≤ sMost w)), m) := by
  unfold fX11_suits
  rw [if_neg (nI_pos (by omega)), if_neg (show ¬ (4 : Int32) < nI w from nI_nlt (a := 4) (b := w) (by omega) (by decide)), gx_n hw (by decide), ix_n (by omega)]
  by_cases c1 : v < sLeast w
  · rw [if_pos c1, decide_eq_false (Int32.not_le.mpr c1)]; rfl
  · rw [if_neg c1, decide_eq_true (Int32.not_lt.mp c1)]
    by_cases c2 : sMost w < v
    · rw [if_pos c2, decide_eq_false (Int32.not_le.mpr c2)]; rfl
    · rw [if_neg c2, decide_eq_true (Int32.not_lt.mp c2)]; rfl
theorem b2f : b2 false = 0 := rfl
theorem b2t : ¬ b2 true = 0 := by decide
def isS (x : Int32) (n : Nat) : Bool := decide (¬ x < 0) && decide (x < nI n)
theorem isOne_r {m : Mm} {n : Nat} (h0 : m 1 0 = nI n) (x : Int32) : fX12_isOne x m = some (b2 (isS x n), m) := by
  unfold fX12_isOne isS
  rw [h0]
  by_cases c1 : x < 0
  · simp [c1]
  · by_cases c2 : nI n ≤ x
    · simp [c1, c2, Int32.not_lt.mpr c2]
    · simp [c1, c2, Int32.not_le.mp c2]
theorem isS_cases (x : Int32) {n : Nat} (hn : n < 2 ^ 31) : isS x n = false ∨ (isS x n = true ∧ ∃ o, o < n ∧ x = nI o) := by
  cases h : isS x n
  · exact Or.inl rfl
  · refine Or.inr ⟨rfl, ?_⟩
    unfold isS at h
    rw [Bool.and_eq_true, decide_eq_true_eq, decide_eq_true_eq] at h
    obtain ⟨j, hj, e⟩ := nI_of h.1
    subst e
    exact ⟨j, (nI_ltI hj hn).mp h.2, rfl⟩
theorem GymIs.row_eq {i : Nat} {m : Mm} {s s' : Nat → Int32} (h : GymIs i m s) (e : ∀ k, k < 53 → s' k = s k) : GymIs i m s' := by
  obtain ⟨⟨a, b, c, d, f⟩, h2, h3, h4, h5⟩ := h
  exact ⟨⟨by rw [e _ (by omega)]; exact a, by rw [e _ (by omega)]; exact b, by rw [e _ (by omega)]; exact c, by rw [e _ (by omega)]; exact d, by rw [e _ (by omega)]; exact f⟩,
    fun w hw o ho => by rw [e _ (by omega)]; exact h2 w hw o ho, fun u hu => by rw [e _ (by omega)]; exact h3 u hu, fun k hk => by rw [e _ (by omega)]; exact h4 k hk, fun k hk => by rw [e _ (by omega)]; exact h5 k hk⟩
/-- a set's thing becomes another -/
theorem GymOk.put {s : Nat → Int32} {n o w : Nat} {v : Int32} (h : GymOk s n) (ho : o < n) (hw : w < 5) (hv : Bd (if w = 0 ∨ w = 2 then 1 else 0) (if w = 0 ∨ w = 1 then 5 else if w = 3 then 2 else 9) v) : GymOk (upd s (8 + 5 * o + w) v) n := by
  obtain ⟨h0, h6, ⟨t, e, te, e1, e16, ht, he⟩, hS1, hT, hL, hM⟩ := h
  refine ⟨by rw [pk_un (by omega)]; exact h0, h6, ⟨t, e, te, e1, e16, by rw [pk_un (by omega)]; exact ht, by rw [pk_un (by omega)]; exact he⟩, fun p hp => ?_, fun u hu => by rw [pk_un (by omega)]; exact hT u hu, fun k hk => by rw [pk_un (by omega)]; exact hL k hk, fun k hk => by rw [pk_un (by omega)]; exact hM k hk⟩
  obtain ⟨b0, b1, b2, b3, b4⟩ := hS1 p hp
  have z : ∀ j lo hi, j < 5 → (p = o → j = w → Bd lo hi v) → Bd lo hi (s (8 + 5 * p + j)) → Bd lo hi (upd s (8 + 5 * o + w) v (8 + 5 * p + j)) := by
    intro j lo hi hj h1 h2
    rw [u_app]
    split
    · exact h1 (by omega) (by omega)
    · exact h2
  exact ⟨z 0 _ _ (by omega) (fun _ h => by subst h; exact hv) b0, z 1 _ _ (by omega) (fun _ h => by subst h; exact hv) b1, z 2 _ _ (by omega) (fun _ h => by subst h; exact hv) b2, z 3 _ _ (by omega) (fun _ h => by subst h; exact hv) b3, z 4 _ _ (by omega) (fun _ h => by subst h; exact hv) b4⟩
theorem op_set (a1 a2 a3 a4 : Int32) : Op (fX11_set a1 a2 a3 a4) (fX12_set a1 a2 a3 a4) := by
  intro mc mr hR
  obtain ⟨n, hn⟩ := hR.2.1.1
  have hG := hR.1.1
  have h6 := hn.2.1
  have bad : ∃ r mc' mr', fX11_set_38 a1 a2 a3 a4 0 mc = some (r, mc') ∧ some ((-1 : Int32), mr) = some (r, mr') ∧ RR mc' mr' := ⟨-1, mc, mr, by unfold fX11_set_38; rw [if_pos rfl], rfl, hR⟩
  unfold fX11_set fX12_set
  have c1 : fX11_suits 0 a1 mc = some (b2 (decide (nI 1 ≤ a1) && decide (a1 ≤ nI 5)), mc) := suits_c (w := 0) (by decide) a1 mc
  have d1 : fX12_isIn (Int32.toInt64 a1) 1 5 mr = some (b2 (decide (nI 1 ≤ a1) && decide (a1 ≤ nI 5)), mr) := isIn_r mr rfl rfl rfl
  have c2 : fX11_suits 1 a2 mc = some (b2 (decide (nI 0 ≤ a2) && decide (a2 ≤ nI 5)), mc) := suits_c (w := 1) (by decide) a2 mc
  have c3 : fX11_suits 2 a3 mc = some (b2 (decide (nI 1 ≤ a3) && decide (a3 ≤ nI 9)), mc) := suits_c (w := 2) (by decide) a3 mc
  have d3 : fX12_isIn (Int32.toInt64 a3) 1 9 mr = some (b2 (decide (nI 1 ≤ a3) && decide (a3 ≤ nI 9)), mr) := isIn_r mr rfl rfl rfl
  have c4 : fX11_suits 3 a4 mc = some (b2 (decide (nI 0 ≤ a4) && decide (a4 ≤ nI 2)), mc) := suits_c (w := 3) (by decide) a4 mc
  have d4 : fX12_isIn (Int32.toInt64 a4) 0 2 mr = some (b2 (decide (nI 0 ≤ a4) && decide (a4 ≤ nI 2)), mr) := isIn_r mr rfl rfl rfl
  rw [c1, d1, bd_s, bd_s]
  rcases rngC a1 (lo := 1) (hi := 5) (by decide) (by decide) with e | ⟨hb1, e⟩
  · rw [e, if_pos b2f, if_pos b2f]; exact bad
  rw [e, if_neg b2t, if_neg b2t, c2, isMachine_r, bd_s, bd_s]
  rcases rngC a2 (lo := 0) (hi := 5) (by decide) (by decide) with e | ⟨hb2, e⟩
  · rw [e, if_pos b2f, if_pos b2f]; exact bad
  rw [e, if_neg b2t, if_neg b2t, c3, d3, bd_s, bd_s]
  rcases rngC a3 (lo := 1) (hi := 9) (by decide) (by decide) with e | ⟨hb3, e⟩
  · rw [e, if_pos b2f, if_pos b2f]; exact bad
  rw [e, if_neg b2t, if_neg b2t, c4, d4, bd_s, bd_s]
  rcases rngC a4 (lo := 0) (hi := 2) (by decide) (by decide) with e | ⟨hb4, e⟩
  · rw [e, if_pos b2f, if_pos b2f]; exact bad
  rw [e, if_neg b2t, if_neg b2t]
  unfold fX11_set_38
  rw [if_neg (show ¬ (1 : Int32) = 0 by decide), hG.1.1, hn.1]
  by_cases c6 : n = 6
  · subst c6
    rw [if_neg (by decide), if_pos (by decide)]
    exact ⟨-2, mc, mr, rfl, rfl, hR⟩
  have hn6 : n < 6 := by omega
  rw [if_pos (show nI n < 6 from nI_lt hn6 (by decide)), if_neg (show ¬ nI n = 6 from fun q => c6 ((nI_eq (a := n) (b := 6) (by omega) (by decide)).mp q))]
  unfold fX1_add
  rw [hG.1.1, hn.1, lt_v, lt_v, gx_n hn6 (by decide), ix_n (by omega), lt_v, lt_v, lt_v, lt_v, lt_v, bd_s, e_one, lt_v]
  have g1 := ((((((hG.up_fld (k := 3) (v := nI n + 1) (by omega)).up_of (w := 0) (v := a1) (by decide) hn6).up_of (w := 1) (v := a2) (by decide) hn6).up_of (w := 2) (v := a3) (by decide) hn6).up_of (w := 3) (v := a4) (by decide) hn6).up_of (w := 4) (v := 3) (by decide) hn6)
  rw [gx_n (by omega) (by decide), ix_n (by omega), lt_v, p1 (n := 8 + 5 * n), gx_n (by omega) (by decide), ix_n (by omega), lt_v, p2 (n := 8 + 5 * n), gx_n (by omega) (by decide), ix_n (by omega), lt_v, p3 (n := 8 + 5 * n), gx_n (by omega) (by decide), ix_n (by omega), lt_v, p4 (n := 8 + 5 * n), gx_n (by omega) (by decide), ix_n (by omega), lt_v, lt_v]
  let s' : Nat → Int32 := upd (upd (upd (upd (upd (upd (mr 1) (8 + 5 * n) a1) (8 + 5 * n + 1) a2) (8 + 5 * n + 2) a3) (8 + 5 * n + 3) a4) (8 + 5 * n + 4) 3) 0 (nI n + 1)
  let mr' := upA mr 1 s'
  have em : up (up (up (up (up (up mr 1 (8 + 5 * n) a1) 1 (8 + 5 * n + 1) a2) 1 (8 + 5 * n + 2) a3) 1 (8 + 5 * n + 3) a4) 1 (8 + 5 * n + 4) 3) 1 0 (up (up (up (up (up mr 1 (8 + 5 * n) a1) 1 (8 + 5 * n + 1) a2) 1 (8 + 5 * n + 2) a3) 1 (8 + 5 * n + 3) a4) 1 (8 + 5 * n + 4) 3 1 0 + 1) = mr' := by
    rw [show up mr 1 (8 + 5 * n) a1 = upA mr 1 (upd (mr 1) (8 + 5 * n) a1) from rfl, up_up1, up_up1, up_up1, up_up1, up_up1, upA_same, pk_un (by omega), pk_un (by omega), pk_un (by omega), pk_un (by omega), pk_un (by omega), hn.1]
  rw [em]
  have er : mr' 1 = s' := upA_same
  have r0 : mr' 1 0 = nI (n + 1) := by rw [er]; exact pk_us.trans p1
  refine ⟨nI n, _, mr', rfl, by rw [r0, m1 (by omega)]; rfl, ?_⟩
  refine hR.gym (n := n + 1) (g1.row_eq ?_) ?_ ?_ ?_ ?_
  · intro k hk
    rw [er]
    simp only [s', u_app, fldS]
    repeat' split
    all_goals first | rfl | omega
  · obtain ⟨h0, -, ⟨t, e, te, e1, e16, ht, he⟩, hS1, hT, hL, hM⟩ := hn
    have hs : ∀ k, k ≠ 0 → (k < 8 + 5 * n ∨ 8 + 5 * n + 5 ≤ k) → s' k = mr 1 k := by
      intro k k0 hk
      show upd _ _ _ k = _
      rw [pk_un k0, pk_un (by omega), pk_un (by omega), pk_un (by omega), pk_un (by omega), pk_un (by omega)]
    rw [er]
    refine ⟨by rw [← er]; exact r0, by omega, ⟨t, e, te, e1, e16, by rw [hs _ (by omega) (by omega)]; exact ht, by rw [hs _ (by omega) (by omega)]; exact he⟩, fun o ho => ?_, fun u hu => by rw [hs _ (by omega) (by omega)]; exact hT u hu, fun k hk => by rw [hs _ (by omega) (by omega)]; exact hL k hk, fun k hk => by rw [hs _ (by omega) (by omega)]; exact hM k hk⟩
    by_cases eo : o = n
    · subst eo
      have z0 : s' (8 + 5 * o) = a1 := by simp [s', u_app]
      have z1 : s' (8 + 5 * o + 1) = a2 := by simp [s', u_app]
      have z2 : s' (8 + 5 * o + 2) = a3 := by simp [s', u_app]
      have z3 : s' (8 + 5 * o + 3) = a4 := by simp [s', u_app]
      have z4 : s' (8 + 5 * o + 4) = 3 := by simp [s', u_app]
      exact ⟨by rw [z0]; exact hb1, by rw [z1]; exact hb2, by rw [z2]; exact hb3, by rw [z3]; exact hb4, by rw [z4]; exact ⟨3, by decide, by decide, rfl⟩⟩
    · have := hS1 o (by omega)
      unfold SetOk at this ⊢
      rw [hs _ (by omega) (by omega), hs _ (by omega) (by omega), hs _ (by omega) (by omega), hs _ (by omega) (by omega), hs _ (by omega) (by omega)]
      exact this
  · intro k hk
    rw [er]
    show upd _ _ _ k = _
    rw [pk_un (by omega), pk_un (by omega), pk_un (by omega), pk_un (by omega), pk_un (by omega), pk_un (by omega)]
  · have P : ∀ j k, j < 13 → (fun q k => scrC q k ∨ gymP 0 q) (gp 0 j) k := fun j k hj => Or.inr (gymP_in hj)
    exact (((((Ce.rf.up (P 0 _ (by decide))).up (P 2 _ (by decide))).up (P 3 _ (by decide))).up (P 4 _ (by decide))).up (P 5 _ (by decide))).up (P 6 _ (by decide))
  · intro q k hq
    exact congrFun (upA_ne (fun e => hq (Or.inr e))) k
