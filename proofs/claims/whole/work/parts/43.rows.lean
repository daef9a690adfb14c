section OFS
variable {mc mr mc' mr' : Mm}
theorem KeptIs.of (h : KeptIs mc mr) (e1 : mc' 0 14 = mc 0 14) (e2 : mr' 0 2 = mr 0 2) (e3 : mr' 2 = mr 2) (c : ∀ q, (34 ≤ q ∧ q ≤ 43) ∨ (48 ≤ q ∧ q ≤ 51) ∨ (81 ≤ q ∧ q ≤ 91) → mc' q = mc q) : KeptIs mc' mr' := by
  unfold KeptIs
  rw [e1, e2, e3]
  rcases h with h | ⟨a, b, ⟨k1, k2, k3⟩, k4⟩
  · exact Or.inl h
  · refine Or.inr ⟨a, b, ⟨?_, ?_, ?_⟩, k4⟩
    · exact k1.of_eq (fun k hk z1 z2 => c _ (by unfold gp; omega))
    · exact k2.of_eq (fun k hk => c _ (by unfold rp; omega))
    · obtain ⟨p, q⟩ := k3
      refine ⟨by rw [c _ (by unfold mp; omega)]; exact p, fun y hy => ?_⟩
      rw [c _ (by unfold mp; omega), c _ (by unfold mp; omega), c _ (by unfold mp; omega)]
      exact q y hy
theorem TapeIs.of (h : TapeIs mc mr) (e1 : mc' 0 1 = mc 0 1) (e2 : mr' 0 5 = mr 0 5) (e3 : mc' 1 = mc 1) (e4 : mr' 4 = mr 4) : TapeIs mc' mr' := by
  unfold TapeIs; rw [e1, e2, e3, e4]; exact h
theorem RowsIs.of (h : RowsIs mc mr) (e1 : mc' 0 13 = mc 0 13) (e2 : mr' 0 26 = mr 0 26) (c : ∀ q, 10 ≤ q → q < 14 → mc' q = mc q) (e4 : mr' 8 = mr 8) : RowsIs mc' mr' := by
  obtain ⟨a, b, d⟩ := h
  exact ⟨by rw [e1, e2]; exact a, by rw [e2]; exact b, fun k hk w hw => by rw [c _ (by omega) (by omega), e4]; exact d k hk w hw⟩
theorem SheetsIs.of (h : SheetsIs mc mr) (c : ∀ q, 53 ≤ q → q < 60 → mc' q = mc q) (e1 : mr' 9 = mr 9) (e2 : mr' 10 = mr 10) (e3 : mr' 11 = mr 11) : SheetsIs mc' mr' := by
  intro t ht
  have := h t ht
  unfold SheetIs
  rw [c 53 (by omega) (by omega), c 54 (by omega) (by omega), c (56 + t) (by omega) (by omega), e1, e2, e3]
  exact this
theorem ShelvesIs.of (h : ShelvesIs mc mr) (c : ∀ q, 60 ≤ q → q < 63 → mc' q = mc q) (e1 : mr' 12 = mr 12) (e2 : mr' 13 = mr 13) (e3 : mr' 14 = mr 14) : ShelvesIs mc' mr' := by
  intro t ht
  have := h t ht
  unfold ShelfIs
  rw [c 60 (by omega) (by omega), c 61 (by omega) (by omega), c 62 (by omega) (by omega), e1, e2, e3]
  exact this
theorem TraceIs.of (h : TraceIs mc mr) (e1 : mc' 52 11 = mc 52 11) (e2 : mr' 0 34 = mr 0 34) (e3 : mc' 63 = mc 63) (e4 : mr' 15 = mr 15) : TraceIs mc' mr' := by
  unfold TraceIs; rw [e1, e2, e3, e4]; exact h
/-- only the rows that were proved became others -/
theorem RR.rows (h : RR mc mr) (w : RowsIs mc' mr') (c : ∀ q, q ≠ 0 → (q < 10 ∨ 14 ≤ q) → mc' q = mc q) (c0 : ∀ k, k ≠ 13 → mc' 0 k = mc 0 k) (r : ∀ q, q ≠ 0 → q ≠ 8 → mr' q = mr q) (r0 : ∀ k, k ≠ 26 → mr' 0 k = mr 0 k) : RR mc' mr' := by
  obtain ⟨k, t, -, s, v, x⟩ := h.2.2
  refine h.rest ⟨k.of (c0 _ (by decide)) (r0 _ (by decide)) (r _ (by decide) (by decide)) (fun q hq => c q (by omega) (by omega)), t.of (c0 _ (by decide)) (r0 _ (by decide)) (c _ (by decide) (by omega)) (r _ (by decide) (by decide)), w,
    s.of (fun q h1 h2 => c q (by omega) (by omega)) (r _ (by decide) (by decide)) (r _ (by decide) (by decide)) (r _ (by decide) (by decide)),
    v.of (fun q h1 h2 => c q (by omega) (by omega)) (r _ (by decide) (by decide)) (r _ (by decide) (by decide)) (r _ (by decide) (by decide)),
    x.of (by rw [c 52 (by decide) (by omega)]) (r0 _ (by decide)) (c 63 (by decide) (by omega)) (r _ (by decide) (by decide))⟩ (fun q h1 h2 => c q (by omega) (by omega)) (r _ (by decide) (by decide))
end OFS
theorem RowsIs.put {mc mr : Mm} (h : RowsIs mc mr) {k w : Nat} {v : Int32} (hk : k < 4) (hw : w < 3) : RowsIs (up mc (10 + k) w v) (up mr 8 (3 * k + w) v) := by
  obtain ⟨a, b, d⟩ := h
  refine ⟨by rw [up_row (by omega), up_row (by decide)]; exact a, by rw [up_row (by decide)]; exact b, fun k' hk' w' hw' => ?_⟩
  rw [up_app, up_app]
  by_cases e : 10 + k' = 10 + k
  · rw [if_pos e, if_pos rfl]
    by_cases e2 : w' = w
    · rw [if_pos e2, if_pos (by omega)]
    · rw [if_neg e2, if_neg (by omega)]; exact d k' hk' w' hw'
  · rw [if_neg e, if_pos rfl, if_neg (by omega)]; exact d k' hk' w' hw'
theorem op_alterRow (a1 a2 a3 : Int32) : Op (fX11_alterRow a1 a2 a3) (fX12_alterRow a1 a2 a3) := by
  intro mc mr hR
  obtain ⟨c, c4, hc, q1, q2⟩ := isRow_b hR a1 a2
  unfold fX11_alterRow fX12_alterRow
  rw [q1, q2, bd_s, bd_s]
  rcases isS_cases a1 (n := c) (by omega) with e | ⟨e, k, hk, rfl⟩
  · rw [e, if_pos (show b2 (false && _) = 0 from rfl), if_pos (show b2 (false && _) = 0 from rfl)]; exact ⟨-9, mc, mr, rfl, rfl, hR⟩
  rw [e, Bool.true_and]
  rcases rngC a2 (lo := 0) (hi := 2) (by decide) (by decide) with e | ⟨⟨w, -, w2, rfl⟩, e⟩
  · rw [e, if_pos b2f, if_pos b2f]; exact ⟨-9, mc, mr, rfl, rfl, hR⟩
  have hw := hR.2.2.2.2.1
  rw [e, if_neg b2t, if_neg b2t, gx_n (by omega) (by decide), gx_n (by omega) (by decide), ix_n (by omega), ix_n (by omega), e_3, gx_n (by omega) (by decide), ix_n (by omega), hw.2.2 k (by omega) w (by omega), lt_v, lt_v, lt_v, lt_v]
  exact ⟨_, _, _, rfl, rfl, hR.rows (hw.put (by omega) (by omega)) (fun q h1 h2 => up_row (by omega)) (fun k hk => up_ne (Or.inl (by omega))) (fun q h1 h2 => up_row h2) (fun k hk => up_ne (Or.inl (by decide)))⟩
theorem op_trace (a1 : Int32) : Op (fX11_trace a1) (fX12_trace a1) := by
  intro mc mr hR
  obtain ⟨h1, ⟨c, -, c30, hc⟩, h3⟩ := hR.2.2.2.2.2.2.2
  have d1 : fX12_isIn (Int32.toInt64 a1) 0 (Int32.toInt64 (nI c - 1)) mr = some (b2 (isS a1 c), mr) := isIdx_r (by omega) a1 mr rfl rfl rfl
  unfold fX11_trace fX12_trace
  rw [h1, hc, d1, bd_s]
  rcases isS_cases a1 (n := c) (by omega) with e | ⟨e, k, hk, rfl⟩
  · rw [e, if_pos b2f]
    unfold isS at e
    by_cases k1 : a1 < 0
    · rw [if_pos k1]; exact ⟨-3, mc, mr, rfl, rfl, hR⟩
    · rw [decide_eq_true k1, Bool.true_and, decide_eq_false_iff_not] at e
      rw [if_neg k1, if_pos (Int32.not_lt.mp e)]; exact ⟨-3, mc, mr, rfl, rfl, hR⟩
  · rw [e, if_neg b2t, if_neg (nI_pos (by omega)), if_neg (nI_ge hk (by omega)), gx_n (by omega) (by decide), gx_n (by omega) (by decide), ix_n (by omega), h3 k (by rw [hc, ix_n (by omega)]; exact hk)]
    exact ⟨_, mc, mr, rfl, rfl, hR⟩
/-- the men became others -/
theorem RR.men {mc mr mc' mr' : Mm} (h : RR mc mr) (hM : MenIs 0 mc' (mr' 1)) (h6 : Bd 0 6 (mr' 1 6)) (e : ∀ k, k ≠ 6 → (k < 85 ∨ 103 ≤ k) → mr' 1 k = mr 1 k)
    (c : ∀ q, (q < 44 ∨ 47 < q) → mc' q = mc q) (r : ∀ q, q ≠ 1 → mr' q = mr q) : RR mc' mr' := by
  obtain ⟨⟨g1, g2, g3⟩, ⟨⟨n, o1⟩, o2, o3⟩, k, t, w, s, v, x⟩ := h
  have hw : ∀ q, q < 44 ∨ 47 < q → mc' q = mc q := c
  refine ⟨⟨(g1.row_eq (fun k hk => e k ?_ ?_)).of_eq (fun k hk z1 z2 => c _ (by unfold gp; omega)), ?_, hM⟩, ⟨⟨n, ?_⟩, ?_, h6⟩, ?_⟩
  all_goals sorry
