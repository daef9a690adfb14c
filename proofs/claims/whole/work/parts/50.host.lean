theorem would_b {t N n : Nat} {x : Int32} {mr : Mm} {s0 : Nat → Int32} (ht : t < 4) (hN : N ≤ 20) : ∀ (d k q : Nat) (m m' : Mm) (w : Int32), k + d = N → d < q → Tr 2 m (m' 1) n → Pl m' s0 n → SheetIs m mr t → m' 10 = mr 10 → m' 11 = mr 11 →
    ∃ r m2 m3, fX11_wouldBe_55 q (nI t) x (nI N) w (nI k) m = some (r, m2) ∧ fX12_sumBy_6 q (nI t) x (nI N) w (nI k) m' = some (r, m3) ∧ Fr (gymP 2) m m2 ∧ Pl m3 s0 n ∧ (∀ q k, ¬ (q = 1 ∨ (q = 0 ∧ k = 13)) → m3 q k = m' q k) := by
  intro d
  induction d with
  | zero =>
    intro k q m m' w hd hq hT hP hs e10 e11
    obtain ⟨q, rfl⟩ : ∃ q', q = q' + 1 := ⟨q - 1, by omega⟩
    rw [fX11_wouldBe_55, fX12_sumBy_6, if_pos (nI_le (by omega) (by omega)), if_pos (nI_le (by omega) (by omega))]
    exact ⟨_, m, m', rfl, rfl, Fr.rf, hP, fun _ _ _ => rfl⟩
  | succ d ih =>
    intro k q m m' w hd hq hT hP hs e10 e11
    obtain ⟨q, rfl⟩ : ∃ q', q = q' + 1 := ⟨q - 1, by omega⟩
    obtain ⟨z, z40, hz, h1, h2⟩ := item_b hs ht x (k := k) (by omega)
    have gt : ∀ {α : Type} (k : Option α), gx (nI t) 4 k = k := fun k => gx_n ht (by decide)
    rw [fX11_wouldBe_55, fX12_sumBy_6, if_neg (nI_ge (by omega) (by omega)), if_neg (nI_ge (by omega) (by omega)), h1, bd_s, gt, gt, ix_n (show t < 2 ^ 31 by omega), e10, h2, bd_s]
    rcases isS_cases (x + nI k) (n := z) (by omega) with e | ⟨e, p, hp, ep⟩
    · rw [e, if_pos b2f, if_pos b2f]; exact ⟨_, m, m', rfl, rfl, Fr.rf, hP, fun _ _ _ => rfl⟩
    have hn := hP.1
    rw [e, if_neg b2t, if_neg b2t, ep, gx_n (by omega) (by decide), ix_n (by omega), lt_v, e_40 ep, gx_n (by omega) (by decide), ix_n (by omega), hs.2.2.2.2 p (by omega), lt_v, e11, isAct_c hT.1 hn.1, isAct_r hn.1, bd_s, bd_s]
    rcases isA_cases (mr 11 (40 * t + p)) hn.2.1 with e | ⟨e, a, ha, hx⟩
    · rw [e, if_pos b2f, if_pos b2f]; exact ⟨_, m, m', rfl, rfl, Fr.rf, hP, fun _ _ _ => rfl⟩
    rw [e, if_neg b2t, if_neg b2t, isOver_c hT.1, isOver_r, bd_s, bd_s]
    by_cases c1 : m' 1 1 < m' 1 2
    · obtain ⟨m1, q1, t1, f1, -⟩ := hT.go (by decide) ha c1
      obtain ⟨m2, q2, e2, p2, -, f2⟩ := hP.go ha c1
      have hp : ∀ q, q < 68 → m1 q = m q := fun q hq => f1 q (by unfold gymP gp; omega)
      rw [decide_eq_true c1, if_pos (show b2 (!true) = 0 from rfl), if_pos (show b2 (!true) = 0 from rfl), hx, q1, q2, bd_s, bd_s, lt_v, lt_v, lt_v, lt_v, p1]
      obtain ⟨r, m3, m4, q3, q4, f3, p4, f4⟩ := ih (k + 1) q m1 m2 _ (by omega) (by omega) (by rw [e2]; exact t1) p2 (by unfold SheetIs; rw [hp _ (by omega), hp _ (by omega), hp _ (by omega)]; exact hs) (funext fun k => by rw [f2 10 k (by omega), e10]) (funext fun k => by rw [f2 11 k (by omega), e11])
      exact ⟨r, m3, m4, q3, q4, f1.tr f3, p4, fun q k hq => (f4 q k hq).trans (f2 q k hq)⟩
    · rw [decide_eq_false c1, if_neg (show ¬ b2 (!false) = 0 by decide), if_neg (show ¬ b2 (!false) = 0 by decide)]
      exact ⟨_, m, m', rfl, rfl, Fr.rf, hP, fun _ _ _ => rfl⟩
theorem op_wouldBe (a1 a2 a3 : Int32) : Op (fX11_wouldBe a1 a2 a3) (fX12_wouldBe a1 a2 a3) := by
  intro mc mr hR
  obtain ⟨n, hn⟩ := hR.2.1.1
  unfold fX11_wouldBe fX12_wouldBe
  rw [isSheet_c, isSheet_r, bd_s, bd_s]
  rcases rngC a1 (lo := 0) (hi := 3) (by decide) (by decide) with e | ⟨⟨t, -, t3, rfl⟩, e⟩
  · rw [e, if_pos b2f, if_pos b2f]; exact ⟨-1, mc, mr, rfl, rfl, hR⟩
  have d3 : fX12_isIn (Int32.toInt64 a3) 0 20 mr = some (b2 (decide (nI 0 ≤ a3) && decide (a3 ≤ nI 20)), mr) := isIn_r mr rfl rfl rfl
  rw [e, if_neg b2t, if_neg b2t, d3, bd_s]
  rcases rngC a3 (lo := 0) (hi := 20) (by decide) (by decide) with e | ⟨⟨N, -, N20, rfl⟩, e⟩
  · rw [e, if_pos b2f]
    rcases rngF e with k | ⟨k, k2⟩
    · rw [if_pos (show a3 < 0 from k)]; exact ⟨-1, mc, mr, rfl, rfl, hR⟩
    · rw [if_neg (show ¬ a3 < 0 from k), if_neg (show ¬ a3 ≤ 20 from Int32.not_le.mpr k2)]; exact ⟨-1, mc, mr, rfl, rfl, hR⟩
  have hs := hR.2.2.2.2.2.1 t (by omega)
  obtain ⟨r, hr, -, h1, h2⟩ := refuse_b hs (by omega) 0
  rw [e, if_neg b2t, if_neg (nI_pos (by omega)), if_pos (show nI N ≤ 20 from nI_le (b := 20) N20 (by decide)), h1, h2 mr rfl, bd_s, bd_s]
  rcases hr with rfl | rfl | rfl
  · rw [if_neg (by decide), if_neg (by decide), h2 mr rfl, bd_s]; exact ⟨_, mc, mr, rfl, rfl, hR⟩
  · rw [if_neg (by decide), if_neg (by decide), h2 mr rfl, bd_s]; exact ⟨_, mc, mr, rfl, rfl, hR⟩
  · rw [if_pos (by decide), if_pos rfl]
    obtain ⟨m1, q1, t1, f1⟩ := hR.tr hn (i := 2) (by decide)
    have hp : ∀ q, q < 68 → m1 q = mc q := fun q hq => f1 q (by unfold gymP gp; omega)
    obtain ⟨m3, q3, p3, e3, c3⟩ := hR.aside hn
    obtain ⟨r, m4, m5, q4, q5, f4, p5, f5⟩ := would_b (x := a2) (show t < 4 by omega) N20 N 0 FL m1 m3 0 (by omega) (by unfold FL; omega) (by rw [e3]; exact t1) p3 (by unfold SheetIs; rw [hp _ (by omega), hp _ (by omega), hp _ (by omega)]; exact hs) (funext fun k => c3 10 k (by decide)) (funext fun k => c3 11 k (by decide))
    have q5' : fX12_sumBy (nI t) a2 (nI N) m3 = some (r, m5) := q5
    rw [q1, bd_s, q3, bd_s, q5', bd_s, p5.back, bd_s]
    exact ⟨r, m4, _, q4, rfl, hR.trial (f1.tr f4) c3 upA_same (fun q k hq => by rw [upA_ne (by omega)]; exact f5 q k hq)⟩
theorem RR.host {mc mr mc' mr' : Mm} (h : RR mc mr) (s : SheetsIs mc' mr') (v : ShelvesIs mc' mr') (x : TraceIs mc' mr') (c : ∀ q, (q < 52 ∨ 63 < q) → mc' q = mc q) (r : ∀ q k, q < 9 → (q ≠ 0 ∨ k < 34) → mr' q k = mr q k) : RR mc' mr' := by
  obtain ⟨k, t, w, -, -, -⟩ := h.2.2
  have rq : ∀ q, q < 9 → q ≠ 0 → mr' q = mr q := fun q h1 h2 => funext fun k => r q k h1 (Or.inl h2)
  exact h.rest ⟨k.of (by rw [c 0 (by omega)]) (r 0 2 (by decide) (by omega)) (rq _ (by decide) (by decide)) (fun q hq => c q (by omega)), t.of (by rw [c 0 (by omega)]) (r 0 5 (by decide) (by omega)) (c 1 (by omega)) (rq _ (by decide) (by decide)),
    w.of (by rw [c 0 (by omega)]) (r 0 26 (by decide) (by omega)) (fun q h1 h2 => c q (by omega)) (rq _ (by decide) (by decide)), s, v, x⟩ (fun q h1 h2 => c q (by omega)) (rq _ (by decide) (by decide))
theorem lay_c {t : Nat} (ht : t < 4) : ∀ (d k q : Nat) (m : Mm), k + d = 40 → d < q → fX3_lay_17 q (nI t) (nI k) m = some (0, upA m (56 + t) (zeroF (m (56 + t)) k d)) := by
  intro d
  induction d with
  | zero =>
    intro k q m hd hq
    obtain ⟨q, rfl⟩ : ∃ q', q = q' + 1 := ⟨q - 1, by omega⟩
    rw [fX3_lay_17, if_pos (show (40 : Int32) ≤ nI k from nI_le (a := 40) (by omega) (by omega))]
    show _ = some (0, upA m (56 + t) (m (56 + t)))
    rw [upA_self]
  | succ d ih =>
    intro k q m hd hq
    obtain ⟨q, rfl⟩ : ∃ q', q = q' + 1 := ⟨q - 1, by omega⟩
    rw [fX3_lay_17, if_neg (show ¬ (40 : Int32) ≤ nI k from nI_ge (b := 40) (by omega) (by omega)), gx_n (by omega) (by decide), gx_n (by omega) (by decide), ix_n (by omega), ix_n (by omega), lt_v, lt_v, p1, ih (k + 1) q _ (by omega) (by omega), up_own, zeroF_upd _ _ (by omega)]
    show some ((0 : Int32), upA (upA m (56 + t) _) (56 + t) _) = _
    rw [upA_upA]
    rfl
theorem lay_r {t : Nat} (ht : t < 4) : ∀ (d k q : Nat) (m : Mm), k + d = 40 → d < q → fX12_sheet_69 q (nI t) (nI k) m = some (1, upA m 11 (zeroF (m 11) (40 * t + k) d)) := by
  intro d
  induction d with
  | zero =>
    intro k q m hd hq
    obtain ⟨q, rfl⟩ : ∃ q', q = q' + 1 := ⟨q - 1, by omega⟩
    rw [fX12_sheet_69, if_pos (show (40 : Int32) ≤ nI k from nI_le (a := 40) (by omega) (by omega))]
    show _ = some (1, upA m 11 (m 11))
    rw [upA_self]
  | succ d ih =>
    intro k q m hd hq
    obtain ⟨q, rfl⟩ : ∃ q', q = q' + 1 := ⟨q - 1, by omega⟩
    rw [fX12_sheet_69, if_neg (show ¬ (40 : Int32) ≤ nI k from nI_ge (b := 40) (by omega) (by omega)), show (40 : Int32) * nI t + nI k = nI (40 * t + k) from by rw [show (40 : Int32) = nI 40 from rfl, pk_mul, nI_add], gx_n (by omega) (by decide), ix_n (by omega), lt_v, lt_v, p1, ih (k + 1) q _ (by omega) (by omega), up_own, zeroF_upd _ _ (by omega)]
    show some ((1 : Int32), upA (upA m 11 _) 11 _) = _
    rw [upA_upA]
    rfl
/-- a sheet is laid, in both -/
theorem lay_b {mc mr : Mm} (hR : RR mc mr) {t z : Nat} {v : Int32} (ht : t < 4) (hz : z ≤ 40) (hv : v = -1 ∨ Bd 0 4 v) :
    RR (upA (up (up mc 53 t v) 54 t (nI z)) (56 + t) (zeroF (mc (56 + t)) 0 40)) (upA (up (up mr 9 t v) 10 t (nI z)) 11 (zeroF (mr 11) (40 * t) 40)) := by
  obtain ⟨k, tp, w, s, sh, x⟩ := hR.2.2
  refine hR.host (fun t' ht' => ?_) (sh.of (fun q h1 h2 => ?_) ?_ ?_ ?_) (x.of ?_ ?_ ?_ ?_) (fun q hq => ?_) (fun q k h1 h2 => ?_)
  · obtain ⟨s1, s2, s3, s4, s5⟩ := s t' ht'
    unfold SheetIs
    rw [upA_ne (show 53 ≠ 56 + t by omega), up_row (by decide), upA_ne (show 54 ≠ 56 + t by omega), upA_ne (show 9 ≠ 11 by decide), up_row (show 9 ≠ 10 by decide), upA_ne (show 10 ≠ 11 by decide), upA_same]
    by_cases e : t' = t
    · subst e
      rw [up_at, up_at, up_at, up_at]
      refine ⟨rfl, hv, rfl, ⟨z, by omega, hz, rfl⟩, fun k hk => ?_⟩
      rw [upA_same, zeroF_in _ _ _ (by omega) (by omega), zeroF_in _ _ _ (by omega) (by omega)]
    · rw [up_ne (Or.inr e), up_ne (Or.inr e), up_ne (Or.inr e), up_row (show 54 ≠ 53 by decide), up_ne (Or.inr e), up_row (show 10 ≠ 9 by decide)]
      refine ⟨s1, s2, s3, s4, fun k hk => ?_⟩
      rw [upA_ne (by omega), up_row (by omega), up_row (by omega), zeroF_out _ _ _ (by omega)]
      exact s5 k hk
  · rw [upA_ne (by omega), up_row (by omega), up_row (by omega)]
  · rw [upA_ne (by decide), up_row (by decide), up_row (by decide)]
  · rw [upA_ne (by decide), up_row (by decide), up_row (by decide)]
  · rw [upA_ne (by decide), up_row (by decide), up_row (by decide)]
  · rw [upA_ne (by omega), up_row (by omega), up_row (by omega)]
  · rw [upA_ne (by decide), up_row (by decide), up_row (by decide)]
  · rw [upA_ne (by omega), up_row (by omega), up_row (by omega)]
  · rw [upA_ne (by decide), up_row (by decide), up_row (by decide)]
  · rw [upA_ne (by omega), up_row (by omega), up_row (by omega)]
  · rw [upA_ne (by omega), up_row (by omega), up_row (by omega)]
theorem op_sheet (a1 a2 a3 : Int32) : Op (fX11_sheet a1 a2 a3) (fX12_sheet a1 a2 a3) := by
  intro mc mr hR
  unfold fX11_sheet fX12_sheet
  rw [isSheet_c, isSheet_r, bd_s, bd_s]
  rcases rngC a1 (lo := 0) (hi := 3) (by decide) (by decide) with e | ⟨⟨t, -, t3, rfl⟩, e⟩
  · rw [e, if_pos b2f, if_pos b2f]; exact ⟨-1, mc, mr, rfl, rfl, hR⟩
  have d2 : fX12_isIn (Int32.toInt64 a2) (-1) 4 mr = some (b2 (decide (-1 ≤ a2) && decide (a2 ≤ nI 4)), mr) := isIn_r mr rfl rfl rfl
  rw [e, if_neg b2t, if_neg b2t, d2, bd_s]
  have t4 : t < 4 := by omega
  have lay : ∀ (v : Int32) (z : Nat), z ≤ 40 → (v = -1 ∨ Bd 0 4 v) → fX11_sheet_60 (nI z) v (nI t) mc = some (1, upA (up (up mc 53 t v) 54 t (nI z)) (56 + t) (zeroF (mc (56 + t)) 0 40)) := by
    intro v z hz hv
    unfold fX11_sheet_60 fX3_lay
    rw [gx_n t4 (by decide), ix_n (by omega), lt_v, lt_v, show (0 : Int32) = nI 0 from rfl, lay_c t4 40 0 FL _ (by omega) (by decide), bd_s, up_row (by omega), up_row (by omega)]
  have layr : ∀ (z : Nat), fX12_sheet_69 FL (nI t) 0 (up (up mr 9 t a2) 10 t (nI z)) = some (1, upA (up (up mr 9 t a2) 10 t (nI z)) 11 (zeroF (mr 11) (40 * t) 40)) := by
    intro z
    have := lay_r t4 40 0 FL (up (up mr 9 t a2) 10 t (nI z)) (by omega) (by decide)
    rw [up_row (show 11 ≠ 10 by decide), up_row (show 11 ≠ 9 by decide), Nat.add_zero] at this
    exact this
  by_cases c1 : a2 < -1
  · rw [if_pos c1, decide_eq_false (Int32.not_le.mpr c1), Bool.false_and, if_pos b2f]; exact ⟨-1, mc, mr, rfl, rfl, hR⟩
  rw [if_neg c1, decide_eq_true (Int32.not_lt.mp c1), Bool.true_and]
  by_cases c2 : a2 ≤ 4
  · rw [if_pos c2, decide_eq_true (show a2 ≤ nI 4 from c2), if_neg b2t]
    by_cases c3 : a2 = -1
    · rw [if_pos c3, if_pos (show a2 < 0 by rw [c3]; decide)]
      unfold fX11_sheet_32 fX12_sheet_33
      rw [if_pos c3, if_pos (show a2 < 0 by rw [c3]; decide)]
      unfold fX11_sheet_44 fX12_sheet_44
      rw [if_pos c3, gx_n t4 (by decide), ix_n (by omega), lt_v, if_neg (show ¬ 0 ≤ a2 by rw [c3]; decide), lt_v, show (0 : Int32) = nI 0 from rfl, lay a2 0 (by omega) (Or.inl c3)]
      exact ⟨1, _, _, rfl, layr 0, lay_b hR t4 (by omega) (Or.inl c3)⟩
    · have c0 : ¬ a2 < 0 := by
        intro q
        apply c3
        apply Int32.toInt_inj.mp
        rw [i_lt] at c1 q
        rw [show (-1 : Int32).toInt = -1 from rfl] at c1 ⊢
        rw [show (0 : Int32).toInt = 0 from rfl] at q
        omega
      have hb : Bd 0 4 a2 := rng (lo := 0) (by decide) (by decide) (Int32.not_lt.mp c0) c2
      rw [if_neg c3, if_neg c0]
      by_cases c4 : a3 ≤ 40
      · rw [if_pos c4, if_pos c4]
        unfold fX11_sheet_32 fX12_sheet_33
        rw [if_neg c3, if_neg c0]
        by_cases c5 : (0 : Int32) ≤ a3
        · obtain ⟨z, -, z40, rfl⟩ : Bd 0 40 a3 := rng (by decide) (by decide) c5 c4
          rw [if_pos c5, if_pos c5]
          unfold fX11_sheet_44 fX12_sheet_44
          rw [if_neg c3, gx_n t4 (by decide), ix_n (by omega), lt_v, if_pos (Int32.not_lt.mp c0), lt_v, lay a2 z z40 (Or.inr hb)]
          exact ⟨1, _, _, rfl, layr z, lay_b hR t4 z40 (Or.inr hb)⟩
        · rw [if_neg c5, if_neg c5]; exact ⟨-14, mc, mr, rfl, rfl, hR⟩
      · rw [if_neg c4, if_neg c4]; exact ⟨-1, mc, mr, rfl, rfl, hR⟩
  · rw [if_neg c2, decide_eq_false (show ¬ a2 ≤ nI 4 from c2), if_pos b2f]; exact ⟨-1, mc, mr, rfl, rfl, hR⟩
