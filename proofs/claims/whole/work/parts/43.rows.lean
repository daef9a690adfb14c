section OFS
variable {mc mr mc' mr' : Mm}
theorem KeptIs.of (h : KeptIs mc mr) (e1 : mc' 0 14 = mc 0 14) (e2 : mr' 0 2 = mr 0 2) (e3 : mr' 2 = mr 2) (c : ∀ q, (34 ≤ q ∧ q ≤ 43) ∨ (48 ≤ q ∧ q ≤ 51) ∨ (81 ≤ q ∧ q ≤ 91) → mc' q = mc q) : KeptIs mc' mr' := by
  unfold KeptIs
  rw [e1, e2, e3]
  rcases h with h | ⟨a, b, ⟨k1, k2, k3⟩, k4⟩
  · exact Or.inl h
  · refine Or.inr ⟨a, b, ⟨?_, ?_, ?_⟩, k4⟩
    · exact k1.of_eq (fun k hk z1 z2 => c _ (by unfold gp; omega))
    · exact k2.of_eq (fun k hk => c _ (by unfold rp; omega))
    · obtain ⟨p, q⟩ := k3
      refine ⟨by rw [c _ (by unfold mp; omega)]; exact p, fun y hy => ?_⟩
      rw [c _ (by unfold mp; omega), c _ (by unfold mp; omega), c _ (by unfold mp; omega)]
      exact q y hy
theorem TapeIs.of (h : TapeIs mc mr) (e1 : mc' 0 1 = mc 0 1) (e2 : mr' 0 5 = mr 0 5) (e3 : mc' 1 = mc 1) (e4 : mr' 4 = mr 4) : TapeIs mc' mr' := by
  unfold TapeIs; rw [e1, e2, e3, e4]; exact h
theorem RowsIs.of (h : RowsIs mc mr) (e1 : mc' 0 13 = mc 0 13) (e2 : mr' 0 26 = mr 0 26) (c : ∀ q, 10 ≤ q → q < 14 → mc' q = mc q) (e4 : mr' 8 = mr 8) : RowsIs mc' mr' := by
  obtain ⟨a, b, d⟩ := h
  exact ⟨by rw [e1, e2]; exact a, by rw [e2]; exact b, fun k hk w hw => by rw [c _ (by omega) (by omega), e4]; exact d k hk w hw⟩
theorem SheetsIs.of (h : SheetsIs mc mr) (c : ∀ q, 53 ≤ q → q < 60 → mc' q = mc q) (e1 : mr' 9 = mr 9) (e2 : mr' 10 = mr 10) (e3 : mr' 11 = mr 11) : SheetsIs mc' mr' := by
  intro t ht
  have := h t ht
  unfold SheetIs
  rw [c 53 (by omega) (by omega), c 54 (by omega) (by omega), c (56 + t) (by omega) (by omega), e1, e2, e3]
  exact this
theorem ShelvesIs.of (h : ShelvesIs mc mr) (c : ∀ q, 60 ≤ q → q < 63 → mc' q = mc q) (e1 : mr' 12 = mr 12) (e2 : mr' 13 = mr 13) (e3 : mr' 14 = mr 14) : ShelvesIs mc' mr' := by
  intro t ht
  have := h t ht
  unfold ShelfIs
  rw [c 60 (by omega) (by omega), c 61 (by omega) (by omega), c 62 (by omega) (by omega), e1, e2, e3]
  exact this
theorem TraceIs.of (h : TraceIs mc mr) (e1 : mc' 52 11 = mc 52 11) (e2 : mr' 0 34 = mr 0 34) (e3 : mc' 63 = mc 63) (e4 : mr' 15 = mr 15) : TraceIs mc' mr' := by
  unfold TraceIs; rw [e1, e2, e3, e4]; exact h
/-- only the rows that were proved became others -/
theorem RR.rows (h : RR mc mr) (w : RowsIs mc' mr') (c : ∀ q, q ≠ 0 → (q < 10 ∨ 14 ≤ q) → mc' q = mc q) (c0 : ∀ k, k ≠ 13 → mc' 0 k = mc 0 k) (r : ∀ q, q ≠ 0 → q ≠ 8 → mr' q = mr q) (r0 : ∀ k, k ≠ 26 → mr' 0 k = mr 0 k) : RR mc' mr' := by
  obtain ⟨k, t, -, s, v, x⟩ := h.2.2
  refine h.rest ⟨k.of (c0 _ (by decide)) (r0 _ (by decide)) (r _ (by decide) (by decide)) (fun q hq => c q (by omega) (by omega)), t.of (c0 _ (by decide)) (r0 _ (by decide)) (c _ (by decide) (by omega)) (r _ (by decide) (by decide)), w,
    s.of (fun q h1 h2 => c q (by omega) (by omega)) (r _ (by decide) (by decide)) (r _ (by decide) (by decide)) (r _ (by decide) (by decide)),
    v.of (fun q h1 h2 => c q (by omega) (by omega)) (r _ (by decide) (by decide)) (r _ (by decide) (by decide)) (r _ (by decide) (by decide)),
    x.of (by rw [c 52 (by decide) (by omega)]) (r0 _ (by decide)) (c 63 (by decide) (by omega)) (r _ (by decide) (by decide))⟩ (fun q h1 h2 => c q (by omega) (by omega)) (r _ (by decide) (by decide))
end OFS
theorem RowsIs.put {mc mr : Mm} (h : RowsIs mc mr) {k w : Nat} {v : Int32} (hk : k < 4) (hw : w < 3) : RowsIs (up mc (10 + k) w v) (up mr 8 (3 * k + w) v) := by
  obtain ⟨a, b, d⟩ := h
  refine ⟨by rw [up_row (by omega), up_row (by decide)]; exact a, by rw [up_row (by decide)]; exact b, fun k' hk' w' hw' => ?_⟩
  rw [up_app, up_app]
  by_cases e : 10 + k' = 10 + k
  · rw [if_pos e, if_pos rfl]
    by_cases e2 : w' = w
    · rw [if_pos e2, if_pos (by omega)]
    · rw [if_neg e2, if_neg (by omega)]; exact d k' hk' w' hw'
  · rw [if_neg e, if_pos rfl, if_neg (by omega)]; exact d k' hk' w' hw'
theorem op_alterRow (a1 a2 a3 : Int32) : Op (fX11_alterRow a1 a2 a3) (fX12_alterRow a1 a2 a3) := by
  intro mc mr hR
  obtain ⟨c, c4, hc, q1, q2⟩ := isRow_b hR a1 a2
  unfold fX11_alterRow fX12_alterRow
  rw [q1, q2, bd_s, bd_s]
  rcases isS_cases a1 (n := c) (by omega) with e | ⟨e, k, hk, rfl⟩
  · rw [e, if_pos (show b2 (false && _) = 0 from rfl), if_pos (show b2 (false && _) = 0 from rfl)]; exact ⟨-9, mc, mr, rfl, rfl, hR⟩
  rw [e, Bool.true_and]
  rcases rngC a2 (lo := 0) (hi := 2) (by decide) (by decide) with e | ⟨⟨w, -, w2, rfl⟩, e⟩
  · rw [e, if_pos b2f, if_pos b2f]; exact ⟨-9, mc, mr, rfl, rfl, hR⟩
  have hw := hR.2.2.2.2.1
  rw [e, if_neg b2t, if_neg b2t, gx_n (by omega) (by decide), gx_n (by omega) (by decide), ix_n (by omega), ix_n (by omega), e_3, gx_n (by omega) (by decide), ix_n (by omega), hw.2.2 k (by omega) w (by omega), lt_v, lt_v, lt_v, lt_v]
  exact ⟨_, _, _, rfl, rfl, hR.rows (hw.put (by omega) (by omega)) (fun q h1 h2 => up_row (by omega)) (fun k hk => up_ne (Or.inl (by omega))) (fun q h1 h2 => up_row h2) (fun k hk => up_ne (Or.inl (by decide)))⟩
theorem op_trace (a1 : Int32) : Op (fX11_trace a1) (fX12_trace a1) := by
  intro mc mr hR
  obtain ⟨h1, ⟨c, -, c30, hc⟩, h3⟩ := hR.2.2.2.2.2.2.2
  have d1 : fX12_isIn (Int32.toInt64 a1) 0 (Int32.toInt64 (nI c - 1)) mr = some (b2 (isS a1 c), mr) := isIdx_r (by omega) a1 mr rfl rfl rfl
  unfold fX11_trace fX12_trace
  rw [h1, hc, d1, bd_s]
  rcases isS_cases a1 (n := c) (by omega) with e | ⟨e, k, hk, rfl⟩
  · rw [e, if_pos b2f]
    unfold isS at e
    by_cases k1 : a1 < 0
    · rw [if_pos k1]; exact ⟨-3, mc, mr, rfl, rfl, hR⟩
    · rw [decide_eq_true k1, Bool.true_and, decide_eq_false_iff_not] at e
      rw [if_neg k1, if_pos (Int32.not_lt.mp e)]; exact ⟨-3, mc, mr, rfl, rfl, hR⟩
  · rw [e, if_neg b2t, if_neg (nI_pos (by omega)), if_neg (nI_ge hk (by omega)), gx_n (by omega) (by decide), gx_n (by omega) (by decide), ix_n (by omega), h3 k (by rw [hc, ix_n (by omega)]; exact hk)]
    exact ⟨_, mc, mr, rfl, rfl, hR⟩
theorem GymIs.row_eq2 {i : Nat} {m : Mm} {s s' : Nat → Int32} (h : GymIs i m s) (e : ∀ k, k < 53 → (k < 5 ∨ 8 ≤ k) → s' k = s k) : GymIs i m s' := by
  obtain ⟨⟨a, b, c, d, f⟩, h2, h3, h4, h5⟩ := h
  exact ⟨⟨by rw [e _ (by omega) (by omega)]; exact a, by rw [e _ (by omega) (by omega)]; exact b, by rw [e _ (by omega) (by omega)]; exact c, by rw [e _ (by omega) (by omega)]; exact d, by rw [e _ (by omega) (by omega)]; exact f⟩,
    fun w hw o ho => by rw [e _ (by omega) (by omega)]; exact h2 w hw o ho, fun u hu => by rw [e _ (by omega) (by omega)]; exact h3 u hu, fun k hk => by rw [e _ (by omega) (by omega)]; exact h4 k hk, fun k hk => by rw [e _ (by omega) (by omega)]; exact h5 k hk⟩
theorem GymOk.row_eq2 {s s' : Nat → Int32} {n : Nat} (h : GymOk s n) (e : ∀ k, k < 53 → (k < 5 ∨ 8 ≤ k) → s' k = s k) : GymOk s' n := by
  obtain ⟨h0, h6, ⟨t, en, te, e1, e16, ht, he⟩, hS1, hT, hL, hM⟩ := h
  refine ⟨by rw [e _ (by omega) (by omega)]; exact h0, h6, ⟨t, en, te, e1, e16, by rw [e _ (by omega) (by omega)]; exact ht, by rw [e _ (by omega) (by omega)]; exact he⟩, fun o ho => ?_, fun u hu => by rw [e _ (by omega) (by omega)]; exact hT u hu, fun k hk => by rw [e _ (by omega) (by omega)]; exact hL k hk, fun k hk => by rw [e _ (by omega) (by omega)]; exact hM k hk⟩
  have := hS1 o ho
  unfold SetOk at this ⊢
  rw [e _ (by omega) (by omega), e _ (by omega) (by omega), e _ (by omega) (by omega), e _ (by omega) (by omega), e _ (by omega) (by omega)]
  exact this
theorem RulesOk.row_eq2 {s s' : Nat → Int32} (h : RulesOk s) (e : ∀ k, k = 5 ∨ k = 7 ∨ (53 ≤ k ∧ k < 85) ∨ 103 ≤ k → s' k = s k) : RulesOk s' := by
  obtain ⟨a, b, c⟩ := h
  have e5 := e 5 (by omega)
  have e7 := e 7 (by omega)
  have h8 : ix (s 5) ≤ 8 := by obtain ⟨x, -, x8, hx⟩ := a; rw [hx, ix_n (by omega)]; exact x8
  refine ⟨by rw [e5]; exact a, by rw [e7]; exact b, fun r hr => ?_⟩
  rw [e5] at hr
  obtain ⟨r1, r2, x, y, xy, y7, hx, hy, hc⟩ := c r hr
  refine ⟨by rw [e _ (by omega)]; exact r1, by rw [e _ (by omega)]; exact r2, x, y, xy, by rw [e7]; exact y7, by rw [e _ (by omega)]; exact hx, by rw [e _ (by omega)]; exact hy, ?_⟩
  have : ∀ d k, cmpN s' k d = cmpN s k d := by
    intro d
    induction d with
    | zero => intro k; rfl
    | succ d ih => intro k; rw [cmpN, cmpN, ih, e _ (by omega)]
  rw [this]
  exact hc
theorem RulesIs.row_eq2 {j : Nat} {m : Mm} {s s' : Nat → Int32} (h : RulesIs j m s) (h8 : ix (s 5) ≤ 8) (e : ∀ k, k = 5 ∨ k = 7 ∨ (53 ≤ k ∧ k < 85) ∨ 103 ≤ k → s' k = s k) : RulesIs j m s' := by
  obtain ⟨a, b, c, d⟩ := h
  refine ⟨by rw [e 5 (by omega)]; exact a, by rw [e 7 (by omega)]; exact b, fun r hr => ?_, fun k hk => ?_⟩
  · rw [e 5 (by omega)] at hr
    obtain ⟨c1, c2, c3, c4⟩ := c r hr
    exact ⟨by rw [e _ (by omega)]; exact c1, by rw [e _ (by omega)]; exact c2, by rw [e _ (by omega)]; exact c3, by rw [e _ (by omega)]; exact c4⟩
  · rw [e 7 (by omega)] at hk
    have := d k hk
    rw [e _ (by omega), e _ (by omega), e _ (by omega)]
    exact this
theorem RulesOk.le8 {s : Nat → Int32} (h : RulesOk s) : ix (s 5) ≤ 8 := by
  obtain ⟨⟨x, -, x8, hx⟩, -⟩ := h
  rw [hx, ix_n (by omega)]; exact x8
/-- the men became others -/
theorem RR.men {mc mr mc' mr' : Mm} (h : RR mc mr) (hM : MenIs 0 mc' (mr' 1)) (h6 : Bd 0 6 (mr' 1 6)) (e : ∀ k, k ≠ 6 → (k < 85 ∨ 103 ≤ k) → mr' 1 k = mr 1 k)
    (c : ∀ q, (q < 44 ∨ 47 < q) → mc' q = mc q) (r : ∀ q, q ≠ 1 → mr' q = mr q) : RR mc' mr' := by
  obtain ⟨⟨g1, g2, g3⟩, ⟨⟨n, o1⟩, o2, o3⟩, k, t, w, s, v, x⟩ := h
  refine ⟨⟨(g1.row_eq2 (fun k hk z => e k (by omega) (by omega))).of_eq (fun k hk z1 z2 => c _ (by unfold gp; omega)), (g2.row_eq2 o2.le8 (fun k hk => e k (by omega) (by omega))).of_eq (fun k hk => c _ (by unfold rp; omega)), hM⟩,
    ⟨⟨n, o1.row_eq2 (fun k hk z => e k (by omega) (by omega))⟩, o2.row_eq2 (fun k hk => e k (by omega) (by omega)), h6⟩, ?_⟩
  have c0 := c 0 (by omega)
  have r0 := r 0 (by omega)
  exact ⟨k.of (by rw [c0]) (by rw [r0]) (r _ (by decide)) (fun q hq => c q (by omega)), t.of (by rw [c0]) (by rw [r0]) (c _ (by decide)) (r _ (by decide)), w.of (by rw [c0]) (by rw [r0]) (fun q h1 h2 => c q (by omega)) (r _ (by decide)),
    s.of (fun q h1 h2 => c q (by omega)) (r _ (by decide)) (r _ (by decide)) (r _ (by decide)), v.of (fun q h1 h2 => c q (by omega)) (r _ (by decide)) (r _ (by decide)) (r _ (by decide)), x.of (by rw [c 52 (by omega)]) (by rw [r0]) (c _ (by decide)) (r _ (by decide))⟩
theorem op_forget : Op fX11_forget fX12_forget := by
  intro mc mr hR
  obtain ⟨m1, m2⟩ := hR.1.2.2
  unfold fX11_forget fX12_forget
  rw [lt_v, lt_v, show (6 : Int32) = nI 6 from rfl, becomes_r (by decide), bd_s, m1]
  refine ⟨_, _, _, rfl, rfl, hR.men ⟨?_, fun r hr => ?_⟩ ?_ (fun k hk z => ?_) (fun q hq => up_row (by unfold mp; omega)) (fun q hq => up_row hq)⟩
  · rw [up_at, up_at]
  · rw [up_row (show mp 0 1 ≠ mp 0 0 by decide), up_row (show mp 0 2 ≠ mp 0 0 by decide), up_row (show mp 0 3 ≠ mp 0 0 by decide), up_ne (Or.inr (by omega)), up_ne (Or.inr (by omega)), up_ne (Or.inr (by omega))]
    exact m2 r hr
  · rw [up_at]; exact ⟨0, by decide, by decide, rfl⟩
  · exact up_ne (Or.inr hk)
theorem op_report (a1 a2 a3 : Int32) : Op (fX11_report a1 a2 a3) (fX12_report a1 a2 a3) := by
  intro mc mr hR
  obtain ⟨mm1, mm2⟩ := hR.1.2.2
  obtain ⟨c, -, c6, hc⟩ := hR.2.1.2.2
  unfold fX11_report fX12_report
  have d1 : fX12_isIn (Int32.toInt64 a1) 0 15 mr = some (b2 (decide (nI 0 ≤ a1) && decide (a1 ≤ nI 15)), mr) := isIn_r mr rfl rfl rfl
  have d2 : fX12_isIn (Int32.toInt64 a2) 0 4 mr = some (b2 (decide (nI 0 ≤ a2) && decide (a2 ≤ nI 4)), mr) := isIn_r mr rfl rfl rfl
  have d3 : fX12_isIn (Int32.toInt64 a3) (Int32.toInt64 a2) 4 mr = some (b2 (decide (a2 ≤ a3) && decide (a3 ≤ nI 4)), mr) := isIn_r mr rfl rfl rfl
  rw [d1, bd_s]
  rcases rngC a1 (lo := 0) (hi := 15) (by decide) (by decide) with e | ⟨⟨a, -, a15, rfl⟩, e⟩
  · rw [e, if_pos b2f]
    rcases rngF e with k | ⟨k, k2⟩
    · rw [if_pos (show a1 < 0 from k)]; exact ⟨-1, mc, mr, rfl, rfl, hR⟩
    · rw [if_neg (show ¬ a1 < 0 from k), if_pos (show 16 ≤ a1 from gt_ge (by decide) k2)]; exact ⟨-1, mc, mr, rfl, rfl, hR⟩
  rw [e, if_neg b2t, if_neg (nI_pos (by omega)), if_neg (show ¬ (16 : Int32) ≤ nI a from nI_ge (b := 16) (by omega) (by decide)), d2, bd_s]
  rcases rngC a2 (lo := 0) (hi := 4) (by decide) (by decide) with e | ⟨⟨y, -, y4, rfl⟩, e⟩
  · rw [e, if_pos b2f]
    rcases rngF e with k | ⟨k, k2⟩
    · rw [if_pos (show a2 < 0 from k)]; exact ⟨-1, mc, mr, rfl, rfl, hR⟩
    · rw [if_neg (show ¬ a2 < 0 from k)]
      by_cases z : (4 : Int32) < a3
      · rw [if_pos z]; exact ⟨-1, mc, mr, rfl, rfl, hR⟩
      · rw [if_neg z, if_neg (show ¬ a2 ≤ a3 from fun q => by
          have k3 : (4 : Int32) < a2 := k2
          rw [i_lt] at z k3; rw [i_le] at q; omega)]
        exact ⟨-1, mc, mr, rfl, rfl, hR⟩
  rw [e, if_neg b2t, if_neg (nI_pos (by omega)), d3, bd_s]
  by_cases z : (4 : Int32) < a3
  · rw [if_pos z, show decide (a3 ≤ nI 4) = false from decide_eq_false (Int32.not_le.mpr z), Bool.and_false, if_pos b2f]; exact ⟨-1, mc, mr, rfl, rfl, hR⟩
  rw [if_neg z, show decide (a3 ≤ nI 4) = true from decide_eq_true (Int32.not_lt.mp z), Bool.and_true]
  by_cases z2 : nI y ≤ a3
  · rw [if_pos z2, decide_eq_true z2, if_neg b2t, mm1, hc]
    by_cases c9 : c = 6
    · subst c9
      rw [if_neg (by decide), if_pos (by decide)]; exact ⟨-2, mc, mr, rfl, rfl, hR⟩
    · have c5 : c < 6 := by omega
      rw [if_pos (show nI c < 6 from nI_lt (b := 6) c5 (by decide)), if_neg (show ¬ nI c = 6 from fun q => c9 ((nI_eq (a := c) (b := 6) (by omega) (by decide)).mp q)), e_rep, lt_v]
      unfold fX4_add
      have s1 : mp 0 0 ≠ mp 0 1 := by decide
      have s2 : mp 0 0 ≠ mp 0 2 := by decide
      have s3 : mp 0 0 ≠ mp 0 3 := by decide
      rw [mm1, hc, gx_n c5 (by decide), ix_n (by omega), lt_v, up_row s1, mm1, hc, gx_n c5 (by decide), ix_n (by omega), lt_v, up_row s2, up_row s1, mm1, hc, gx_n c5 (by decide), ix_n (by omega), lt_v, up_row s3, up_row s2, up_row s1, mm1, hc, lt_v, up_at, p1 (n := c), bd_s]
      rw [gx_n (by omega) (by decide), ix_n (by omega), lt_v, p1 (n := 85 + 3 * c), gx_n (by omega) (by decide), ix_n (by omega), lt_v, p2 (n := 85 + 3 * c), gx_n (by omega) (by decide), ix_n (by omega), lt_v, lt_v, up_at,
        up_ne (m := up (up mr 1 (85 + 3 * c) (nI a)) 1 (85 + 3 * c + 1) (nI y)) (Or.inr (by omega)), up_ne (m := up mr 1 (85 + 3 * c) (nI a)) (Or.inr (by omega)), up_ne (m := mr) (p := 1) (q := 1) (j := 6) (Or.inr (by omega)), hc, p1 (n := c)]
      refine ⟨nI (c + 1) - 1, _, _, rfl, rfl, hR.men ⟨?_, fun r hr => ?_⟩ ?_ (fun k hk z => ?_) (fun q hq => ?_) (fun q hq => ?_)⟩
      · rw [up_at, up_at]
      · have n1 : mp 0 1 ≠ mp 0 0 := by decide
        have n2 : mp 0 2 ≠ mp 0 0 := by decide
        have n3 : mp 0 3 ≠ mp 0 0 := by decide
        have n12 : mp 0 1 ≠ mp 0 2 := by decide
        have n13 : mp 0 1 ≠ mp 0 3 := by decide
        have n23 : mp 0 2 ≠ mp 0 3 := by decide
        rw [up_row n1, up_row n13, up_row n12, up_row n2, up_row n23, up_row n3, up_ne (j := 85 + 3 * r) (Or.inr (show 85 + 3 * r ≠ 6 by omega)), up_ne (j := 85 + 3 * r + 1) (Or.inr (show 85 + 3 * r + 1 ≠ 6 by omega)), up_ne (j := 85 + 3 * r + 2) (Or.inr (show 85 + 3 * r + 2 ≠ 6 by omega))]
        obtain ⟨b1, b2, b3⟩ := mm2 r hr
        by_cases e : r = c
        · subst e
          refine ⟨?_, ?_, ?_⟩
          · rw [up_at, up_ne (Or.inr (by omega)), up_ne (Or.inr (by omega)), up_at]
          · rw [up_at, up_ne (Or.inr (by omega)), up_at]
          · rw [up_at, up_at]
        · refine ⟨?_, ?_, ?_⟩
          · rw [up_ne (Or.inr e), up_ne (Or.inr (by omega)), up_ne (Or.inr (by omega)), up_ne (Or.inr (by omega))]; exact b1
          · rw [up_ne (Or.inr e), up_ne (Or.inr (by omega)), up_ne (Or.inr (by omega)), up_ne (Or.inr (by omega)), up_ne (Or.inr (by omega))]; exact b2
          · rw [up_ne (Or.inr e), up_ne (Or.inr (by omega)), up_ne (Or.inr (by omega)), up_ne (Or.inr (by omega)), up_ne (Or.inr (by omega)), up_ne (Or.inr (by omega))]; exact b3
      · rw [up_at]; exact ⟨c + 1, by omega, by omega, rfl⟩
      · rw [up_ne (Or.inr hk), up_ne (Or.inr (by omega)), up_ne (Or.inr (by omega)), up_ne (Or.inr (by omega))]
      · rw [up_row (by unfold mp; omega), up_row (by unfold mp; omega), up_row (by unfold mp; omega), up_row (by unfold mp; omega)]
      · rw [up_row hq, up_row hq, up_row hq, up_row hq]
  · rw [if_neg z2, decide_eq_false z2, if_pos b2f]; exact ⟨-1, mc, mr, rfl, rfl, hR⟩
