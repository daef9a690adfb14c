theorem narrow_b (v : Int32) (m : Mm) : ∀ s : Nat, s ≤ 4 → ∃ r, fX3_narrowed (nI s) v m = some (r, m) ∧
    ∀ i : Int32, ∀ m' : Mm, (if nI s = 0 then gx i 160 (lt (up m' 11 (ix i) (Int8.toInt32 (Int32.toInt8 v))) fun m_28 => some ((1 : Int32), m_28)) else (if nI s = 1 then gx i 160 (lt (up m' 11 (ix i) (Int16.toInt32 (Int32.toInt16 v))) fun m_25 => some (1, m_25)) else (if nI s = 4 then (if v = 0 then gx i 160 (lt (up m' 11 (ix i) 0) fun m_22 => some (1, m_22)) else gx i 160 (lt (up m' 11 (ix i) 1) fun m_19 => some (1, m_19))) else gx i 160 (lt (up m' 11 (ix i) v) fun m_15 => some (1, m_15))))) = gx i 160 (some (1, up m' 11 (ix i) r)) := by
  intro s hs
  unfold fX3_narrowed
  rcases (show s = 0 ∨ s = 1 ∨ s = 2 ∨ s = 3 ∨ s = 4 by omega) with rfl | rfl | rfl | rfl | rfl
  · exact ⟨_, by rw [if_pos (show nI 0 = 0 from rfl)], fun i m' => by rw [if_pos (show nI 0 = 0 from rfl)]; rfl⟩
  · exact ⟨_, by rw [if_neg (show ¬ nI 1 = 0 by decide), if_pos (show nI 1 = 1 from rfl)], fun i m' => by rw [if_neg (show ¬ nI 1 = 0 by decide), if_pos (show nI 1 = 1 from rfl)]; rfl⟩
  · exact ⟨v, by rw [if_neg (show ¬ nI 2 = 0 by decide), if_neg (show ¬ nI 2 = 1 by decide), if_neg (show ¬ nI 2 = 4 by decide)], fun i m' => by rw [if_neg (show ¬ nI 2 = 0 by decide), if_neg (show ¬ nI 2 = 1 by decide), if_neg (show ¬ nI 2 = 4 by decide)]; rfl⟩
  · exact ⟨v, by rw [if_neg (show ¬ nI 3 = 0 by decide), if_neg (show ¬ nI 3 = 1 by decide), if_neg (show ¬ nI 3 = 4 by decide)], fun i m' => by rw [if_neg (show ¬ nI 3 = 0 by decide), if_neg (show ¬ nI 3 = 1 by decide), if_neg (show ¬ nI 3 = 4 by decide)]; rfl⟩
  · by_cases c : v = 0
    · exact ⟨0, by rw [if_neg (show ¬ nI 4 = 0 by decide), if_neg (show ¬ nI 4 = 1 by decide), if_pos (show nI 4 = 4 from rfl), if_pos c], fun i m' => by rw [if_neg (show ¬ nI 4 = 0 by decide), if_neg (show ¬ nI 4 = 1 by decide), if_pos (show nI 4 = 4 from rfl), if_pos c]; rfl⟩
    · exact ⟨1, by rw [if_neg (show ¬ nI 4 = 0 by decide), if_neg (show ¬ nI 4 = 1 by decide), if_pos (show nI 4 = 4 from rfl), if_neg c], fun i m' => by rw [if_neg (show ¬ nI 4 = 0 by decide), if_neg (show ¬ nI 4 = 1 by decide), if_pos (show nI 4 = 4 from rfl), if_neg c]; rfl⟩
theorem idx_b {mc mr : Mm} {t : Nat} (h : SheetIs mc mr t) (ht : t < 4) (x : Int32) : ∃ z, z ≤ 40 ∧ mr 10 t = nI z ∧ fX3_hasItem (nI t) x mc = some (b2 (isS x z), mc) ∧ ∀ m, fX12_isIn (Int32.toInt64 x) 0 (Int32.toInt64 (mr 10 t - 1)) m = some (b2 (isS x z), m) := by
  obtain ⟨s1, s2, s3, ⟨z, -, z40, hz⟩, s5⟩ := h
  refine ⟨z, z40, hz, ?_, fun m => ?_⟩
  · unfold fX3_hasItem isS
    rw [gx_n (by omega) (by decide), ix_n (by omega), s3, hz]
    by_cases c1 : x < 0
    · rw [if_pos c1, decide_eq_false (fun q => q c1)]; rfl
    · rw [if_neg c1, decide_eq_true c1]
      by_cases c2 : nI z ≤ x
      · rw [if_pos c2, decide_eq_false (Int32.not_lt.mpr c2)]; rfl
      · rw [if_neg c2, decide_eq_true (Int32.not_le.mp c2)]; rfl
  · rw [hz]
    exact isIdx_r (by omega) x m rfl rfl rfl
theorem sort_cases {mr : Mm} {t : Nat} (s2 : mr 9 t = -1 ∨ Bd 0 4 (mr 9 t)) : (mr 9 t = -1 ∧ ¬ 0 ≤ mr 9 t ∧ mr 9 t < 0) ∨ (¬ mr 9 t = -1 ∧ 0 ≤ mr 9 t ∧ ¬ mr 9 t < 0 ∧ ∃ v : Nat, v ≤ 4 ∧ mr 9 t = nI v) := by
  rcases s2 with e | ⟨v, v0, v4, e⟩
  · exact Or.inl ⟨e, by rw [e]; decide, by rw [e]; decide⟩
  · refine Or.inr ⟨?_, by rw [e]; exact nI_pos' (by omega), by rw [e]; exact nI_pos (by omega), v, v4, e⟩
    rw [e]
    intro q
    have := nI_pos (n := v) (by omega)
    rw [q] at this
    exact this (by decide)
theorem op_write (a1 a2 a3 : Int32) : Op (fX11_write a1 a2 a3) (fX12_write a1 a2 a3) := by
  intro mc mr hR
  unfold fX11_write fX12_write
  rw [isSheet_c, isSheet_r, bd_s, bd_s]
  rcases rngC a1 (lo := 0) (hi := 3) (by decide) (by decide) with e | ⟨⟨t, -, t3, rfl⟩, e⟩
  · rw [e, if_pos b2f, if_pos b2f]; exact ⟨-1, mc, mr, rfl, rfl, hR⟩
  have t4 : t < 4 := by omega
  have gt : ∀ {α : Type} (k : Option α), gx (nI t) 4 k = k := fun k => gx_n t4 (by decide)
  have hs := hR.2.2.2.2.2.1 t t4
  obtain ⟨z, z40, hz, h1, h2⟩ := idx_b hs t4 a2
  rw [e, if_neg b2t, if_neg b2t, gt, gt, ix_n (by omega), hs.1]
  rcases sort_cases hs.2.1 with ⟨k1, k2, k3⟩ | ⟨k1, k2, k3, v, v4, hv⟩
  · rw [if_pos k1, if_neg k2]; exact ⟨-11, mc, mr, rfl, rfl, hR⟩
  rw [if_neg k1, if_pos k2, h1, bd_s, h2, bd_s]
  rcases isS_cases a2 (n := z) (by omega) with e | ⟨e, p, hp, rfl⟩
  · rw [e, if_pos b2f, if_pos b2f]; exact ⟨-12, mc, mr, rfl, rfl, hR⟩
  obtain ⟨r, n1, n2⟩ := narrow_b a3 mc v v4
  rw [e, if_neg b2t, if_neg b2t, hs.1, hv, n1, bd_s, n2, gx_n (by omega) (by decide), ix_n (by omega), lt_v, show (40 : Int32) * nI t + nI p = nI (40 * t + p) from by rw [show (40 : Int32) = nI 40 from rfl, pk_mul, nI_add], gx_n (by omega) (by decide), ix_n (by omega)]
  obtain ⟨k, tp, w, s, sh, x⟩ := hR.2.2
  refine ⟨1, _, _, rfl, rfl, hR.host (fun t' ht' => ?_) (sh.of (fun q h1 h2 => up_row (by omega)) (up_row (by decide)) (up_row (by decide)) (up_row (by decide))) (x.of (by rw [up_row (by omega)]) (by rw [up_row (by decide)]) (up_row (by omega)) (up_row (by decide))) (fun q hq => up_row (by omega)) (fun q k h1 h2 => by rw [up_row (by omega)])⟩
  obtain ⟨s1, s2, s3, s4, s5⟩ := s t' ht'
  unfold SheetIs
  rw [up_row (show 53 ≠ 56 + t by omega), up_row (show 54 ≠ 56 + t by omega), up_row (show 9 ≠ 11 by decide), up_row (show 10 ≠ 11 by decide)]
  refine ⟨s1, s2, s3, s4, fun k hk => ?_⟩
  rw [up_app, up_app, if_pos rfl]
  by_cases e : t' = t
  · subst e
    rw [if_pos rfl]
    by_cases e2 : k = p
    · rw [if_pos e2, if_pos (by omega)]
    · rw [if_neg e2, if_neg (by omega)]; exact s5 k hk
  · rw [if_neg (by omega), if_neg (by omega)]; exact s5 k hk
theorem op_item (a1 a2 a3 : Int32) : Op (fX11_item a1 a2 a3) (fX12_item a1 a2 a3) := by
  intro mc mr hR
  unfold fX11_item fX12_item
  rw [isSheet_c, isSheet_r, bd_s, bd_s]
  rcases rngC a1 (lo := 0) (hi := 3) (by decide) (by decide) with e | ⟨⟨t, -, t3, rfl⟩, e⟩
  · rw [e, if_pos b2f, if_pos b2f]; exact ⟨-1, mc, mr, rfl, rfl, hR⟩
  have t4 : t < 4 := by omega
  have gt : ∀ {α : Type} (k : Option α), gx (nI t) 4 k = k := fun k => gx_n t4 (by decide)
  have hs := hR.2.2.2.2.2.1 t t4
  have d2 : fX12_isIn (Int32.toInt64 a2) 0 4 mr = some (b2 (decide (nI 0 ≤ a2) && decide (a2 ≤ nI 4)), mr) := isIn_r mr rfl rfl rfl
  rw [e, if_neg b2t, if_neg b2t, d2, bd_s]
  rcases rngC a2 (lo := 0) (hi := 4) (by decide) (by decide) with e | ⟨⟨v, -, v4, rfl⟩, e⟩
  · rw [e, if_pos b2f]
    rcases rngF e with k | ⟨k, k2⟩
    · rw [if_pos (show a2 < 0 from k)]; exact ⟨-1, mc, mr, rfl, rfl, hR⟩
    · rw [if_neg (show ¬ a2 < 0 from k), if_neg (show ¬ a2 ≤ 4 from Int32.not_le.mpr k2)]; exact ⟨-1, mc, mr, rfl, rfl, hR⟩
  obtain ⟨r, hr, -, h1, h2⟩ := refuse_b hs t4 (nI v)
  rw [e, if_neg b2t, if_neg (nI_pos (by omega)), if_pos (show nI v ≤ 4 from nI_le (b := 4) v4 (by decide)), h1, h2 mr rfl, bd_s, bd_s]
  rcases hr with rfl | rfl | rfl
  · rw [if_neg (by decide), if_neg (by decide), h2 mr rfl, bd_s]; exact ⟨_, mc, mr, rfl, rfl, hR⟩
  · rw [if_neg (by decide), if_neg (by decide), h2 mr rfl, bd_s]; exact ⟨_, mc, mr, rfl, rfl, hR⟩
  obtain ⟨z, z40, hz, h3, h4⟩ := idx_b hs t4 a3
  rw [if_pos (by decide), if_pos rfl, h3, bd_s, gt, gt, ix_n (show t < 2 ^ 31 by omega), h4, bd_s]
  rcases isS_cases a3 (n := z) (by omega) with e | ⟨e, p, hp, rfl⟩
  · rw [e, if_pos b2f, if_pos b2f]; exact ⟨-12, mc, mr, rfl, rfl, hR⟩
  rw [e, if_neg b2t, if_neg b2t, gx_n (by omega) (by decide), ix_n (by omega), show (40 : Int32) * nI t + nI p = nI (40 * t + p) from by rw [show (40 : Int32) = nI 40 from rfl, pk_mul, nI_add], gx_n (by omega) (by decide), ix_n (by omega), hs.2.2.2.2 p (by omega)]
  exact ⟨_, mc, mr, rfl, rfl, hR⟩
/-- what lies on a shelf became another thing -/
theorem RR.shelf {mc mr : Mm} (hR : RR mc mr) {h : Nat} {mc' mr' : Mm} (hh : ShelfIs mc' mr' h) (c : ∀ q, (q < 60 ∨ 62 < q) → mc' q = mc q) (c2 : ∀ q k, k ≠ h → mc' q k = mc q k) (r : ∀ q, (q < 12 ∨ 14 < q) → mr' q = mr q) (r2 : ∀ q k, k ≠ h → mr' q k = mr q k) : RR mc' mr' := by
  obtain ⟨k, tp, w, s, sh, x⟩ := hR.2.2
  refine hR.host (s.of (fun q h1 h2 => c q (by omega)) (r _ (by omega)) (r _ (by omega)) (r _ (by omega))) (fun t ht => ?_) (x.of (by rw [c 52 (by omega)]) (by rw [r 0 (by omega)]) (c _ (by omega)) (r _ (by omega))) (fun q hq => c q (by omega)) (fun q k h1 h2 => by rw [r q (by omega)])
  by_cases e : t = h
  · rw [e]; exact hh
  · have := sh t ht
    unfold ShelfIs
    rw [c2 60 t e, c2 61 t e, c2 62 t e, r2 12 t e, r2 13 t e, r2 14 t e]
    exact this
theorem op_shelf (a1 a2 a3 : Int32) : Op (fX11_shelf a1 a2 a3) (fX12_shelf a1 a2 a3) := by
  intro mc mr hR
  obtain ⟨n, hn⟩ := hR.2.1.1
  have h6 := hn.2.1
  unfold fX11_shelf fX12_shelf
  rw [isShelf_c, isShelf_r, bd_s, bd_s]
  rcases rngC a1 (lo := 0) (hi := 3) (by decide) (by decide) with e | ⟨⟨h, -, h3, rfl⟩, e⟩
  · rw [e, if_pos b2f, if_pos b2f]; exact ⟨-1, mc, mr, rfl, rfl, hR⟩
  have h4 : h < 4 := by omega
  have gh : ∀ {α : Type} (k : Option α), gx (nI h) 4 k = k := fun k => gx_n h4 (by decide)
  have d2 : fX12_isIn (Int32.toInt64 a2) 0 2 mr = some (b2 (decide (nI 0 ≤ a2) && decide (a2 ≤ nI 2)), mr) := isIn_r mr rfl rfl rfl
  rw [e, if_neg b2t, if_neg b2t, d2, bd_s]
  rcases rngC a2 (lo := 0) (hi := 2) (by decide) (by decide) with e | ⟨⟨w, -, w2, rfl⟩, e⟩
  · rw [e, if_pos b2f]
    rcases rngF e with k | ⟨k, k2⟩
    · rw [if_pos (show a2 < 0 from k)]; exact ⟨-1, mc, mr, rfl, rfl, hR⟩
    · rw [if_neg (show ¬ a2 < 0 from k), if_neg (show ¬ a2 ≤ 2 from Int32.not_le.mpr k2)]; exact ⟨-1, mc, mr, rfl, rfl, hR⟩
  rw [e, if_neg b2t, if_neg (nI_pos (by omega)), if_pos (show nI w ≤ 2 from nI_le (b := 2) w2 (by decide))]
  rcases (show w = 0 ∨ w = 1 ∨ w = 2 by omega) with rfl | rfl | rfl
  · rw [if_pos (show nI 0 = 0 from rfl), if_pos (show nI 0 = 0 from rfl), hR.has hn, isOne_r hn.1, bd_s, bd_s]
    rcases isS_cases a3 (n := n) (by omega) with e | ⟨e, o, ho, rfl⟩
    · rw [e, if_pos b2f, if_pos b2f]; exact ⟨-1, mc, mr, rfl, rfl, hR⟩
    rw [e, if_neg b2t, if_neg b2t]
    unfold fX11_shelf_33 fX12_shelf_31
    rw [if_neg (show ¬ nI 0 = 1 by decide), if_neg (show ¬ nI 0 = 1 by decide)]
    unfold fX11_shelf_47 fX12_shelf_45
    rw [if_pos (show nI 0 = 0 from rfl), if_neg (show ¬ nI 0 = 1 by decide)]
    unfold fX12_shelf_64
    rw [if_pos (show nI 0 = 0 from rfl)]
    unfold fX12_shelf_89
    rw [gh, lt_v, if_pos (show nI 0 = 0 from rfl)]
    unfold fX12_shelf_118 fX3_putSet
    rw [gh, gh, lt_v, lt_v, lt_v, bd_s, if_pos rfl, gh, lt_v, ix_n (show h < 2 ^ 31 by omega)]
    refine ⟨1, _, _, rfl, rfl, hR.shelf (h := h) (Or.inl ⟨?_, ?_, ?_, ?_⟩) (fun q hq => ?_) (fun q k hk => ?_) (fun q hq => ?_) (fun q k hk => ?_)⟩
    · rw [up_row (by decide), up_at]
    · rw [up_row (by decide), up_row (by decide), up_at]
    · rw [up_at, up_row (by decide), up_at]
    · rw [up_row (by decide), up_at]; exact ⟨o, by omega, by omega, rfl⟩
    · rw [up_row (by omega), up_row (by omega)]
    · rw [up_ne (Or.inr hk), up_ne (Or.inr hk)]
    · rw [up_row (by omega), up_row (by omega), up_row (by omega)]
    · rw [up_ne (Or.inr hk), up_ne (Or.inr hk), up_ne (Or.inr hk)]
  · rw [if_neg (show ¬ nI 1 = 0 by decide), if_neg (show ¬ nI 1 = 0 by decide)]
    unfold fX11_shelf_33 fX12_shelf_31
    rw [if_pos (show nI 1 = 1 from rfl), if_pos (show nI 1 = 1 from rfl), isSheet_c, isSheet_r, bd_s, bd_s]
    rcases rngC a3 (lo := 0) (hi := 3) (by decide) (by decide) with e | ⟨⟨t, -, t3, rfl⟩, e⟩
    · rw [e, if_pos b2f, if_pos b2f]; exact ⟨-1, mc, mr, rfl, rfl, hR⟩
    have t4 : t < 4 := by omega
    have gt : ∀ {α : Type} (k : Option α), gx (nI t) 4 k = k := fun k => gx_n t4 (by decide)
    have hs := hR.2.2.2.2.2.1 t t4
    rw [e, if_neg b2t, if_neg b2t]
    unfold fX11_shelf_47 fX12_shelf_45
    rw [if_neg (show ¬ nI 1 = 0 by decide), if_pos (show nI 1 = 1 from rfl), if_pos (show nI 1 = 1 from rfl)]
    unfold fX3_putRow
    rw [gt, gt, ix_n (show t < 2 ^ 31 by omega), hs.1]
    rcases sort_cases hs.2.1 with ⟨k1, k2, k3⟩ | ⟨k1, k2, k3, v, v4, hv⟩
    · rw [if_pos k1, if_pos k3]
      unfold fX12_shelf_64
      rw [if_neg (show ¬ nI 1 = 0 by decide), if_pos rfl]
      unfold fX12_shelf_89 fX3_putRow_20
      rw [gh, gh, lt_v, lt_v, gt, gh, lt_v, lt_v, if_neg (show ¬ nI 1 = 0 by decide), if_pos rfl, bd_s]
      unfold fX12_shelf_118
      rw [gh, lt_v, if_pos rfl, gh, lt_v, ix_n (show h < 2 ^ 31 by omega)]
      refine ⟨1, _, _, rfl, rfl, hR.shelf (h := h) (Or.inr (Or.inr ⟨?_, ?_⟩)) (fun q hq => ?_) (fun q k hk => ?_) (fun q hq => ?_) (fun q k hk => ?_)⟩
      · rw [up_row (by decide), up_row (by decide), up_at]
      · rw [up_row (by decide), up_row (by decide), up_at]
      · rw [up_row (by omega), up_row (by omega), up_row (by omega)]
      · rw [up_ne (Or.inr hk), up_ne (Or.inr hk), up_ne (Or.inr hk)]
      · rw [up_row (by omega), up_row (by omega), up_row (by omega)]
      · rw [up_ne (Or.inr hk), up_ne (Or.inr hk), up_ne (Or.inr hk)]
    · rw [if_neg k1, if_neg k3]
      unfold fX12_shelf_64
      rw [if_neg (show ¬ nI 1 = 0 by decide), if_neg (show ¬ (1 : Int32) = 0 by decide)]
      unfold fX12_shelf_89 fX3_putRow_20
      rw [gh, gh, lt_v, lt_v, gt, gh, lt_v, lt_v, if_neg (show ¬ nI 1 = 0 by decide), if_neg (show ¬ (1 : Int32) = 0 by decide), bd_s, gt]
      unfold fX12_shelf_118
      rw [gh, lt_v, if_neg (show ¬ (1 : Int32) = 0 by decide), gt, gh, lt_v, ix_n (show h < 2 ^ 31 by omega), ix_n (show t < 2 ^ 31 by omega)]
      refine ⟨1, _, _, rfl, rfl, hR.shelf (h := h) (Or.inr (Or.inl ⟨?_, ?_, ?_, ?_⟩)) (fun q hq => ?_) (fun q k hk => ?_) (fun q hq => ?_) (fun q k hk => ?_)⟩
      · rw [up_row (by decide), up_row (by decide), up_at]
      · rw [up_row (by decide), up_row (by decide), up_at]
      · rw [up_row (by decide), up_at, up_row (by decide), up_row (show 13 ≠ 14 by decide), up_at, up_row (by decide)]; exact hs.1
      · rw [up_at, up_at, up_row (by decide), up_row (by decide), up_row (by decide), up_row (by decide)]; exact hs.2.2.1
      · rw [up_row (by omega), up_row (by omega), up_row (by omega)]
      · rw [up_ne (Or.inr hk), up_ne (Or.inr hk), up_ne (Or.inr hk)]
      · rw [up_row (by omega), up_row (by omega), up_row (by omega)]
      · rw [up_ne (Or.inr hk), up_ne (Or.inr hk), up_ne (Or.inr hk)]
  · rw [if_neg (show ¬ nI 2 = 0 by decide), if_neg (show ¬ nI 2 = 0 by decide)]
    unfold fX11_shelf_33 fX12_shelf_31
    rw [if_neg (show ¬ nI 2 = 1 by decide), if_neg (show ¬ nI 2 = 1 by decide)]
    unfold fX11_shelf_47 fX12_shelf_45
    rw [if_neg (show ¬ nI 2 = 0 by decide), if_neg (show ¬ nI 2 = 1 by decide), if_neg (show ¬ nI 2 = 1 by decide)]
    unfold fX12_shelf_64
    rw [if_neg (show ¬ nI 2 = 0 by decide), if_pos rfl]
    unfold fX12_shelf_89
    rw [gh, lt_v, gh, lt_v, if_neg (show ¬ nI 2 = 0 by decide), if_pos rfl]
    unfold fX12_shelf_118
    rw [gh, lt_v, if_pos rfl, gh, lt_v, ix_n (show h < 2 ^ 31 by omega)]
    refine ⟨1, _, _, rfl, rfl, hR.shelf (h := h) (Or.inr (Or.inr ⟨up_at, ?_⟩)) (fun q hq => up_row (by omega)) (fun q k hk => up_ne (Or.inr hk)) (fun q hq => ?_) (fun q k hk => ?_)⟩
    · rw [up_row (by decide), up_row (by decide), up_at]
    · rw [up_row (by omega), up_row (by omega), up_row (by omega)]
    · rw [up_ne (Or.inr hk), up_ne (Or.inr hk), up_ne (Or.inr hk)]
/-- which set a shelf holds, if one -/
theorem held_b {mc mr : Mm} (hR : RR mc mr) {n : Nat} (hn : GymOk (mr 1) n) {h : Nat} (h4 : h < 4) :
    (mc 60 h = 1 ∧ mr 12 h = 2 ∧ mc 61 h = mr 13 h ∧ mc 62 h = mr 14 h ∧ fX11_holdsSet (nI h) mc = some (0, mc) ∧ fX12_heldOn (nI h) mr = some (2, mr)) ∨
    (mc 60 h ≠ 1 ∧ fX11_holdsSet (nI h) mc = some (0, mc) ∧ fX12_heldOn (nI h) mr = some (0, mr)) ∨
    (∃ o, o < n ∧ mc 60 h ≠ 1 ∧ mc 61 h = nI o ∧ mr 13 h = nI o ∧ fX11_holdsSet (nI h) mc = some (1, mc) ∧ fX12_heldOn (nI h) mr = some (1, mr)) := by
  have h6 := hn.2.1
  have gh : ∀ {α : Type} (k : Option α), gx (nI h) 4 k = k := fun k => gx_n h4 (by decide)
  unfold fX11_holdsSet fX12_heldOn fX12_heldOn_27
  rw [gh, gh, ix_n (show h < 2 ^ 31 by omega)]
  rcases hR.2.2.2.2.2.2.1 h h4 with ⟨a, b, c, ⟨o, -, o5, d⟩⟩ | ⟨a, b, c, d⟩ | ⟨a, b⟩
  · rw [a, b, if_pos rfl, if_pos rfl, c, d, hR.has hn, isOne_r hn.1, bd_s, bd_s]
    rcases isS_cases (nI o) (n := n) (by omega) with e | ⟨e, p, hp, ep⟩
    · rw [e, if_pos b2f, if_pos b2f]
      exact Or.inr (Or.inl ⟨by decide, rfl, rfl⟩)
    · rw [e, if_neg b2t, if_neg b2t, gh, b]
      exact Or.inr (Or.inr ⟨p, hp, by decide, ep, ep, rfl, rfl⟩)
  · rw [a, b, if_neg (show ¬ (1 : Int32) = 0 by decide), if_neg (show ¬ (2 : Int32) = 1 by decide), gh]
    exact Or.inl ⟨rfl, rfl, c, d, rfl, rfl⟩
  · rw [a, b, if_neg (show ¬ (2 : Int32) = 0 by decide), if_neg (show ¬ (0 : Int32) = 1 by decide), gh]
    exact Or.inr (Or.inl ⟨by decide, rfl, rfl⟩)
