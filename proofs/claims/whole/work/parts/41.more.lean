theorem isMac_c (x y : Int32) (m : Mm) : fX11_isMachine x y m = some (b2 ((decide (nI 0 ≤ x) && decide (x ≤ nI 5)) && (decide (nI 0 ≤ y) && decide (y ≤ nI 1))), m) := by
  unfold fX11_isMachine
  have h6 : ((6 : Int32) ≤ x) = ¬ x ≤ nI 5 := by
    apply propext
    rw [i_le, i_le, show (6 : Int32).toInt = 6 from rfl, show (nI 5).toInt = 5 from rfl]
    omega
  by_cases c1 : x < 0
  · rw [if_pos c1, decide_eq_false (show ¬ nI 0 ≤ x from Int32.not_le.mpr c1)]; rfl
  · rw [if_neg c1, decide_eq_true (show nI 0 ≤ x from Int32.not_lt.mp c1)]
    by_cases c2 : x ≤ nI 5
    · rw [if_neg (by rw [h6]; exact fun q => q c2), decide_eq_true c2]
      by_cases y0 : y = 0
      · subst y0; rfl
      · rw [if_neg y0]
        by_cases y1 : y = 1
        · subst y1; rfl
        · rw [if_neg y1]
          have : (decide (nI 0 ≤ y) && decide (y ≤ nI 1)) = false := by
            rcases rngC y (lo := 0) (hi := 1) (by decide) (by decide) with e | ⟨⟨v, -, v1, rfl⟩, -⟩
            · exact e
            · exfalso
              rcases (show v = 0 ∨ v = 1 by omega) with rfl | rfl
              · exact y0 rfl
              · exact y1 rfl
          rw [this]; rfl
    · rw [if_pos (by rw [h6]; exact c2), decide_eq_false c2]; rfl
theorem op_machine (a1 a2 a3 : Int32) : Op (fX11_machine a1 a2 a3) (fX12_machine a1 a2 a3) := by
  intro mc mr hR
  obtain ⟨n, hn⟩ := hR.2.1.1
  have hG := hR.1.1
  unfold fX11_machine fX12_machine
  have d2 : fX12_isIn (Int32.toInt64 a2) 0 1 mr = some (b2 (decide (nI 0 ≤ a2) && decide (a2 ≤ nI 1)), mr) := isIn_r mr rfl rfl rfl
  rw [isMac_c, isMachine_r, bd_s, bd_s]
  rcases rngC a1 (lo := 0) (hi := 5) (by decide) (by decide) with e | ⟨⟨a, -, a5, rfl⟩, e⟩
  · rw [e, if_pos (show b2 (false && _) = 0 from rfl), if_pos b2f]; exact ⟨-1, mc, mr, rfl, rfl, hR⟩
  rw [e, if_neg b2t, d2, bd_s]
  rcases rngC a2 (lo := 0) (hi := 1) (by decide) (by decide) with e | ⟨⟨w, -, w1, rfl⟩, e⟩
  · rw [e, if_pos (show b2 (true && false) = 0 from rfl), if_pos b2f]; exact ⟨-1, mc, mr, rfl, rfl, hR⟩
  rw [e, if_neg (show ¬ b2 (true && true) = 0 by decide), if_neg b2t, gx_n (by omega) (by decide), ix_n (by omega), gx_n (by omega) (by decide), ix_n (by omega), lt_v, lt_v]
  rcases (show w = 0 ∨ w = 1 by omega) with rfl | rfl
  · rw [if_pos (show nI 0 = 0 from rfl)]
    unfold fX12_machine_33
    have d3 : fX12_isIn (Int32.toInt64 a3) 0 9 mr = some (b2 (decide (nI 0 ≤ a3) && decide (a3 ≤ nI 9)), mr) := isIn_r mr rfl rfl rfl
    rw [d3, bd_s]
    rcases rngC a3 (lo := 0) (hi := 9) (by decide) (by decide) with e | ⟨hb, e⟩
    · rw [e, if_pos b2f]
      by_cases c : a3 < 0
      · rw [if_pos c]; exact ⟨-1, mc, mr, rfl, rfl, hR⟩
      · rw [if_neg c, if_neg (fun q => by rw [decide_eq_true (show nI 0 ≤ a3 from Int32.not_lt.mp c), decide_eq_true (show a3 ≤ nI 9 from q)] at e; exact absurd e (by decide))]
        exact ⟨-1, mc, mr, rfl, rfl, hR⟩
    · rw [e, if_neg b2t, if_pos (show nI 0 = 0 from rfl)]
      unfold fX12_machine_53
      rw [show (41 : Int32) = nI 41 from rfl, nI_add, becomes_r (by omega), bd_s]
      have hb0 := hb
      obtain ⟨v, -, v9, rfl⟩ := hb
      rw [if_neg (nI_pos (by omega)), if_pos (show nI v ≤ sMach 0 from nI_le (b := 9) v9 (by decide)), hG.2.2.2.1 a (by omega)]
      exact ⟨_, _, _, rfl, rfl, hR.put_load hn (by omega) hb0⟩
  · rw [if_neg (show ¬ nI 1 = 0 by decide)]
    unfold fX12_machine_33
    have d3 : fX12_isIn (Int32.toInt64 a3) 0 65535 mr = some (b2 (decide (nI 0 ≤ a3) && decide (a3 ≤ nI 65535)), mr) := isIn_r mr rfl rfl rfl
    rw [d3, bd_s]
    rcases rngC a3 (lo := 0) (hi := 65535) (by decide) (by decide) with e | ⟨hb, e⟩
    · rw [e, if_pos b2f]
      by_cases c : a3 < 0
      · rw [if_pos c]; exact ⟨-1, mc, mr, rfl, rfl, hR⟩
      · rw [if_neg c, if_neg (fun q => by rw [decide_eq_true (show nI 0 ≤ a3 from Int32.not_lt.mp c), decide_eq_true (show a3 ≤ nI 65535 from q)] at e; exact absurd e (by decide))]
        exact ⟨-1, mc, mr, rfl, rfl, hR⟩
    · rw [e, if_neg b2t, if_neg (show ¬ nI 1 = 0 by decide)]
      unfold fX12_machine_53
      rw [show (47 : Int32) = nI 47 from rfl, nI_add, becomes_r (by omega), bd_s]
      have hb0 := hb
      obtain ⟨v, -, v9, rfl⟩ := hb
      rw [if_neg (nI_pos (by omega)), if_pos (show nI v ≤ sMach 1 from nI_le (b := 65535) v9 (by decide)), hG.2.2.2.2 a (by omega)]
      exact ⟨_, _, _, rfl, rfl, hR.put_taken hn (by omega) hb0⟩
theorem op_machineOf (a1 a2 : Int32) : Op (fX11_machineOf a1 a2) (fX12_machineOf a1 a2) := by
  intro mc mr hR
  have hG := hR.1.1
  unfold fX11_machineOf fX12_machineOf
  have d2 : fX12_isIn (Int32.toInt64 a2) 0 1 mr = some (b2 (decide (nI 0 ≤ a2) && decide (a2 ≤ nI 1)), mr) := isIn_r mr rfl rfl rfl
  rw [isMac_c, isMachine_r, bd_s, bd_s]
  rcases rngC a1 (lo := 0) (hi := 5) (by decide) (by decide) with e | ⟨⟨a, -, a5, rfl⟩, e⟩
  · rw [e, if_pos (show b2 (false && _) = 0 from rfl), if_pos b2f]; exact ⟨-1, mc, mr, rfl, rfl, hR⟩
  rw [e, if_neg b2t, d2, bd_s]
  rcases rngC a2 (lo := 0) (hi := 1) (by decide) (by decide) with e | ⟨⟨w, -, w1, rfl⟩, e⟩
  · rw [e, if_pos (show b2 (true && false) = 0 from rfl), if_pos b2f]; exact ⟨-1, mc, mr, rfl, rfl, hR⟩
  rw [e, if_neg (show ¬ b2 (true && true) = 0 by decide), if_neg b2t, gx_n (by omega) (by decide), ix_n (by omega), gx_n (by omega) (by decide), ix_n (by omega)]
  rcases (show w = 0 ∨ w = 1 by omega) with rfl | rfl
  · rw [if_pos (show nI 0 = 0 from rfl), show (41 : Int32) = nI 41 from rfl, nI_add, gx_n (by omega) (by decide), ix_n (by omega), ← hG.2.2.2.1 a (by omega)]
    exact ⟨_, _, _, rfl, rfl, hR⟩
  · rw [if_neg (show ¬ nI 1 = 0 by decide), show (47 : Int32) = nI 47 from rfl, nI_add, gx_n (by omega) (by decide), ix_n (by omega), ← hG.2.2.2.2 a (by omega)]
    exact ⟨_, _, _, rfl, rfl, hR⟩
/-- of a number outside a range, which side it is on -/
theorem rngF {x : Int32} {lo hi : Nat} (h : (decide (nI lo ≤ x) && decide (x ≤ nI hi)) = false) : x < nI lo ∨ (¬ x < nI lo ∧ nI hi < x) := by
  by_cases c : x < nI lo
  · exact Or.inl c
  · refine Or.inr ⟨c, ?_⟩
    rw [decide_eq_true (Int32.not_lt.mp c), Bool.true_and, decide_eq_false_iff_not] at h
    exact Int32.not_le.mp h
theorem gt_ge {x : Int32} {h : Nat} (hh : h + 1 < 2 ^ 31) (c : nI h < x) : nI (h + 1) ≤ x := by
  rw [i_lt, toI (by omega)] at c
  rw [i_le, toI hh]
  omega
theorem op_tire (a1 a2 : Int32) : Op (fX11_tire a1 a2) (fX12_tire a1 a2) := by
  intro mc mr hR
  obtain ⟨n, hn⟩ := hR.2.1.1
  have hG := hR.1.1
  unfold fX11_tire fX12_tire
  have d1 : fX12_isIn (Int32.toInt64 a1) 0 2 mr = some (b2 (decide (nI 0 ≤ a1) && decide (a1 ≤ nI 2)), mr) := isIn_r mr rfl rfl rfl
  have d2 : fX12_isIn (Int32.toInt64 a2) 0 9 mr = some (b2 (decide (nI 0 ≤ a2) && decide (a2 ≤ nI 9)), mr) := isIn_r mr rfl rfl rfl
  rw [d1, bd_s]
  rcases rngC a1 (lo := 0) (hi := 2) (by decide) (by decide) with e | ⟨⟨a, -, a5, rfl⟩, e⟩
  · rw [e, if_pos b2f]
    rcases rngF e with c | ⟨c, c2⟩
    · rw [if_pos (show a1 < 0 from c)]; exact ⟨-1, mc, mr, rfl, rfl, hR⟩
    · rw [if_neg (show ¬ a1 < 0 from c), if_pos (show 3 ≤ a1 from gt_ge (by decide) c2)]; exact ⟨-1, mc, mr, rfl, rfl, hR⟩
  rw [e, if_neg b2t, d2, bd_s, if_neg (nI_pos (by omega)), if_neg (show ¬ (3 : Int32) ≤ nI a from nI_ge (b := 3) (by omega) (by decide))]
  rcases rngC a2 (lo := 0) (hi := 9) (by decide) (by decide) with e | ⟨hb, e⟩
  · rw [e, if_pos b2f]
    rcases rngF e with c | ⟨c, c2⟩
    · rw [if_pos (show a2 < 0 from c)]; exact ⟨-1, mc, mr, rfl, rfl, hR⟩
    · rw [if_neg (show ¬ a2 < 0 from c), if_neg (show ¬ a2 ≤ 9 from Int32.not_le.mpr c2)]; exact ⟨-1, mc, mr, rfl, rfl, hR⟩
  rw [e, if_neg b2t, show (38 : Int32) = nI 38 from rfl, nI_add, becomes_r (by omega), bd_s]
  have hb0 := hb
  obtain ⟨v, -, v9, rfl⟩ := hb
  rw [if_neg (nI_pos (by omega)), if_pos (show nI v ≤ 9 from nI_le (b := 9) v9 (by decide)), gx_n (by omega) (by decide), ix_n (by omega), lt_v, lt_v, hG.2.2.1 a (by omega)]
  exact ⟨_, _, _, rfl, rfl, hR.put_tired hn (by omega) hb0⟩
theorem op_ends (a1 : Int32) : Op (fX11_ends a1) (fX12_ends a1) := by
  intro mc mr hR
  obtain ⟨n, hn⟩ := hR.2.1.1
  have hG := hR.1.1
  unfold fX11_ends fX12_ends
  have d1 : fX12_isIn (Int32.toInt64 a1) 1 16 mr = some (b2 (decide (nI 1 ≤ a1) && decide (a1 ≤ nI 16)), mr) := isIn_r mr rfl rfl rfl
  rw [d1, bd_s]
  rcases rngC a1 (lo := 1) (hi := 16) (by decide) (by decide) with e | ⟨⟨v, v1, v16, rfl⟩, e⟩
  · rw [e, if_pos b2f]
    rcases rngF e with c | ⟨c, c2⟩
    · rw [if_pos (show a1 < 1 from c)]; exact ⟨-1, mc, mr, rfl, rfl, hR⟩
    · rw [if_neg (show ¬ a1 < 1 from c), if_neg (show ¬ a1 ≤ 16 from Int32.not_le.mpr c2)]; exact ⟨-1, mc, mr, rfl, rfl, hR⟩
  rw [e, if_neg b2t, if_neg (show ¬ nI v < 1 from nI_nlt (b := 1) (by omega) (by omega)), if_pos (show nI v ≤ 16 from nI_le (b := 16) v16 (by decide)), hG.1.2.1]
  by_cases c : mr 1 1 ≤ nI v
  · rw [if_pos c, if_pos c, lt_v, lt_v, show (2 : Int32) = nI 2 from rfl, becomes_r (by decide), bd_s, hG.1.2.2.1]
    exact ⟨_, _, _, rfl, rfl, hR.put_end hn v1 v16 c⟩
  · rw [if_neg c, if_neg c]; exact ⟨-4, mc, mr, rfl, rfl, hR⟩
theorem op_seed (a1 : Int32) : Op (fX11_seed a1) (fX12_seed a1) := by
  intro mc mr hR
  obtain ⟨n, hn⟩ := hR.2.1.1
  have hG := hR.1.1
  unfold fX11_seed fX12_seed
  rw [show (4 : Int32) = nI 4 from rfl, becomes_r (by decide), bd_s, lt_v, lt_v, hG.1.2.2.2.2]
  exact ⟨_, _, _, rfl, rfl, hR.put_chance hn⟩
theorem op_minute : Op fX11_minute fX12_minute := by
  intro mc mr hR
  obtain ⟨n, hn⟩ := hR.2.1.1
  have hG := hR.1.1
  unfold fX11_minute fX12_minute
  rw [isOver_c hG, isOver_r, bd_s, bd_s]
  by_cases c : mr 1 1 < mr 1 2
  · rw [decide_eq_true c, if_pos (show b2 (!true) = 0 from rfl), if_pos (show b2 (!true) = 0 from rfl), restAct_c hG hn, restAct_r hn, bd_s, bd_s]
    obtain ⟨mc', mr', q1, q2, r, -⟩ := hR.goBy hn (restS_le hn) c
    rw [q1, q2, bd_s, bd_s]
    exact ⟨_, _, _, rfl, rfl, r⟩
  · rw [decide_eq_false c, if_neg (show ¬ b2 (!false) = 0 by decide), if_neg (show ¬ b2 (!false) = 0 by decide)]
    exact ⟨-4, mc, mr, rfl, rfl, hR⟩
def lotN (c : Int32) (n : Nat) : Nat := (c.toBitVec.toNat / 2 ^ 16) % (n + 1)
theorem lot_n (c : Int32) {n : Nat} (hn : n ≤ 6) : (Int32.toUInt32 c >>> (Int32.toUInt32 16 &&& Int32.toUInt32 31)).toInt32 - (Int32.toUInt32 c >>> (Int32.toUInt32 16 &&& Int32.toUInt32 31)).toInt32 / (nI n + 1) * (nI n + 1) = nI (lotN c n) := by
  have hx := pk_ushr c 16 16 (by decide)
  have hlt : c.toBitVec.toNat / 2 ^ 16 < 2 ^ 16 := by have := c.toBitVec.isLt; omega
  have e : (Int32.toUInt32 c >>> (Int32.toUInt32 16 &&& Int32.toUInt32 31)).toInt32 = nI (c.toBitVec.toNat / 2 ^ 16) := by
    apply Int32.toBitVec_inj.mp
    apply BitVec.eq_of_toNat_eq
    rw [hx, pk_tn (by omega)]
  rw [e, p1, pk_rem (by omega) (by omega) (by omega)]
  rfl
theorem lotN_le {c : Int32} {n : Nat} : lotN c n ≤ n := by unfold lotN; have := Nat.mod_lt (c.toBitVec.toNat / 2 ^ 16) (show 0 < n + 1 by omega); omega
def nextS (c : Int32) : Int32 := c * 1103515245 + 12345
theorem op_lot : Op fX11_lot fX12_lot := by
  intro mc mr hR
  obtain ⟨n, hn⟩ := hR.2.1.1
  have hG := hR.1.1
  unfold fX11_lot fX12_lot
  rw [isOver_c hG, isOver_r, bd_s, bd_s]
  by_cases c : mr 1 1 < mr 1 2
  · rw [decide_eq_true c, if_pos (show b2 (!true) = 0 from rfl), if_pos (show b2 (!true) = 0 from rfl)]
    have h1 := hR.put_chance hn (v := nextS (mr 1 4))
    have n1 : GymOk ((up mr 1 4 (nextS (mr 1 4))) 1) n := by rw [up_own]; exact hn.other (by omega)
    obtain ⟨mc', mr', q1, q2, r, -⟩ := h1.goBy n1 (lotN_le (c := nextS (mr 1 4)) (n := n)) (by rw [up_own, pk_un (by decide), pk_un (by decide)]; exact c)
    have z : ∀ {α : Type} (k : Option α), gz (nI n + 1) k = k := fun k => by unfold gz; rw [p1, if_neg (nI_ne0 (by omega) (by have := hn.2.1; omega))]
    have ec : fX1_drawAct 0 mc = some (nI (lotN (nextS (mr 1 4)) n), up mc (gp 0 0) 9 (nextS (mr 1 4))) := by
      unfold fX1_drawAct
      rw [hG.1.2.2.2.2]
      show lt (up mc (gp 0 0) 9 (nextS (mr 1 4))) _ = _
      rw [lt_v, up_at, up_ne (Or.inr (by decide)), hG.1.1, hn.1, z, lot_n _ hn.2.1]
    have er : fX12_goesByLot mr = some (worthS (up mr 1 4 (nextS (mr 1 4)) 1) (lotN (nextS (mr 1 4)) n), mr') := by
      unfold fX12_goesByLot
      show lt (up mr 1 4 (nextS (mr 1 4))) _ = _
      rw [lt_v, up_at, up_ne (Or.inr (by decide)), hn.1, z, lot_n _ hn.2.1, q2, bd_s]
    rw [ec, er, bd_s, bd_s, q1, bd_s]
    exact ⟨_, _, _, rfl, rfl, r⟩
  · rw [decide_eq_false c, if_neg (show ¬ b2 (!false) = 0 by decide), if_neg (show ¬ b2 (!false) = 0 by decide)]
    exact ⟨-4, mc, mr, rfl, rfl, hR⟩
