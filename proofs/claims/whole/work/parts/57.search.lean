theorem walk_ok {L n N t e : Nat} (hL : L ≤ 4) (hLN : L ≤ N) (hN : N ≤ 4) (htL : t + L ≤ e) (hor : L = N ∨ t + L = e) (he : e ≤ 16) : ∀ (d δ f fr : Nat), δ + d = L → d < f → d < fr → WalkOk L n N t e δ f fr := by
  intro d
  induction d with
  | zero =>
    intro δ f fr hd hf hfr mc mr v τ done hv hτ hW hP hA
    obtain ⟨f, rfl⟩ : ∃ z, f = z + 1 := ⟨f - 1, by omega⟩
    obtain ⟨fr, rfl⟩ : ∃ z, fr = z + 1 := ⟨fr - 1, by omega⟩
    have hδ : δ = L := by omega
    subst hδ
    obtain ⟨mc', mr', q1, q2, P', F', lc, lr⟩ := leaf_b (rec := rX12_plans fr) (v := v) (τ := τ) (done := done) hL (by omega) (by omega) hP hA
    have e1 : mr' 1 = mr 1 := lr.1 1 (by decide) (by decide)
    refine ⟨mc', mr', ?_, ?_, ?_, P', F', ?_, e1, ⟨fun q hq => lc.1 q (by omega) (by omega), fun k hk => lc.2 k hk, fun k hk => by rw [lc.1 66 (by decide) (by decide)]⟩, ⟨fun q q0 q3 q6 q7 => lr.1 q q0 q7, fun k hk => lr.2 k (by omega), fun k hk => by rw [lr.1 3 (by decide) (by decide)], fun k hk => by rw [lr.1 6 (by decide) (by decide)]⟩⟩
    · show fX7_walk (rX7_walk f) (nI δ) (nI v) (nI τ) done mc = _
      unfold fX7_walk
      rw [hP.1, if_neg (nI_nlt (Nat.le_refl δ) (by omega)), q1, bd_s]
    · show fX12_plans (rX12_plans fr) (nI δ) (nI N) (nI v) (nI τ) done mr = _
      unfold fX12_plans
      by_cases c : δ = N
      · subst c; rw [if_pos rfl, q2]
      · rw [if_neg (fun q => c ((nI_eq (by omega) (by omega)).mp q)), isOver_r, bd_s, hW.2.2.2.2.2.1, hW.2.2.2.2.2.2, decide_eq_false (nI_nlt (by omega) (by omega)), if_neg (show ¬ b2 (!false) = 0 by decide), q2]
    · obtain ⟨w1, w2, w3, w4, w5, w6, w7⟩ := hW
      refine ⟨?_, by rw [e1]; exact w2, by rw [e1]; exact w3, ?_, fun i h1 h2 => by omega, by rw [e1]; exact w6, by rw [e1]; exact w7⟩
      · rw [e1]; exact w1.of_eq (fun k hk _ _ => lc.1 _ (by unfold gp; omega) (by unfold gp; omega))
      · rw [e1]; exact w4.of_eq (fun k hk => lc.1 _ (by unfold rp; omega) (by unfold rp; omega))
    · intro k hk
      rw [lc.1 66 (by decide) (by decide), lr.1 6 (by decide) (by decide)]
      exact hA k hk
  | succ d ih =>
    intro δ f fr hd hf hfr mc mr v τ done hv hτ hW hP hA
    obtain ⟨f, rfl⟩ : ∃ z, f = z + 1 := ⟨f - 1, by omega⟩
    obtain ⟨fr, rfl⟩ : ∃ z, fr = z + 1 := ⟨fr - 1, by omega⟩
    have h6 := hW.2.1.2.1
    obtain ⟨g, e1, g1, g2⟩ := aside_r (a := δ) (by omega) mr
    let mr1 := upA mr 3 g
    have q1 : ∀ q, q ≠ 3 → mr1 q = mr q := fun q hq => upA_ne hq
    have W1 : Wk L δ n t e mc mr1 := by
      unfold Wk
      rw [q1 1 (by decide)]
      exact hW
    have P1 : PR L n mc mr1 := hP.fr rfl rfl (fun k _ _ => congrFun (q1 0 (by decide)) k) (q1 7 (by decide))
    obtain ⟨mc', mr', r1, r2, W', P', F', A', o', fc, fr'⟩ := walk_loop (f := f) (fr := fr) (N := N) hL (show δ < L by omega) htL he (ih (δ + 1) f fr (by omega) (by omega) (by omega)) (n + 1) 0 FL FL mc mr1 v τ done (by omega) (by unfold FL; omega) (by unfold FL; omega) hv hτ W1 P1 (fun k hk => by rw [q1 6 (by decide)]; exact hA k hk) (fun k hk => by
      show upA mr 3 g 3 (47 * δ + k) = upA mr 3 g 1 k
      rw [upA_same, upA_ne (by decide)]; exact g1 k hk) (Or.inr rfl)
    refine ⟨mc', mr', ?_, ?_, W', P', F', A', o'.trans (q1 1 (by decide)), fc, FRr.tr ⟨fun q q0 q3 q6 q7 => q1 q q3, fun k hk => congrFun (q1 0 (by decide)) k, fun k hk => ?_, fun k hk => congrFun (q1 6 (by decide)) k⟩ fr'⟩
    · show fX7_walk (rX7_walk f) (nI δ) (nI v) (nI τ) done mc = _
      unfold fX7_walk
      rw [hP.1, if_pos (nI_lt (by omega) (by omega)), p1, gx_n (by omega) (by decide), ix_n (by omega)]
      exact r1
    · show fX12_plans (rX12_plans fr) (nI δ) (nI N) (nI v) (nI τ) done mr = _
      unfold fX12_plans
      rw [if_neg (fun q => by have := (nI_eq (a := δ) (b := N) (by omega) (by omega)).mp q; omega), isOver_r, bd_s, hW.2.2.2.2.2.1, hW.2.2.2.2.2.2, decide_eq_true (nI_lt (by omega) (by omega)), if_pos (show b2 (!true) = 0 from rfl), e1, bd_s]
      exact r2
    · show upA mr 3 g 3 k = mr 3 k
      rw [upA_same]; exact g2 k (by omega)
/-- all gyms of a search are prepared -/
theorem prep_c {s : Nat → Int32} {L : Nat} (hL : L ≤ 4) : ∀ (d i q : Nat) (m : Mm), i + d = L + 1 → d < q → m 64 2 = nI L → GymIs 0 m s → (∀ j, j < i → GymIs (3 + j) m s) → ∃ m', fX7_begin_19 0 q (nI i) m = some (0, m') ∧ (∀ j, j ≤ L → GymIs (3 + j) m' s) ∧ (∀ q, q < 107 → m' q = m q) := by
  intro d
  induction d with
  | zero =>
    intro i q m hd hq h2 hG hj
    obtain ⟨q, rfl⟩ : ∃ z, q = z + 1 := ⟨q - 1, by omega⟩
    rw [fX7_begin_19, h2, if_pos (nI_lt (by omega) (by omega))]
    exact ⟨m, rfl, fun j hj' => hj j (by omega), fun _ _ => rfl⟩
  | succ d ih =>
    intro i q m hd hq h2 hG hj
    obtain ⟨q, rfl⟩ : ∃ z, q = z + 1 := ⟨q - 1, by omega⟩
    obtain ⟨m1, e1, g1, f1⟩ := copy_c (i := 3 + i) (j := 0) (by omega) hG
    have z : ∀ q, (q < 68 + 13 * (3 + i)) → m1 q = m q := fun q hq => f1 q (by unfold gymP gp; omega)
    rw [fX7_begin_19, h2, if_neg (nI_nlt (by omega) (by omega)), gx_n (by omega) (by decide), ix_n (by omega), e1, bd_s, lt_v, p1]
    obtain ⟨m2, e2, g2, f2⟩ := ih (i + 1) q m1 (by omega) (by omega) (by rw [z 64 (by omega)]; exact h2) (hG.of_eq (fun k hk _ _ => z _ (by unfold gp; omega))) (fun j hj' => by
      by_cases ej : j = i
      · rw [ej]; exact g1
      · exact (hj j (by omega)).of_eq (fun k hk _ _ => z _ (by unfold gp; omega)))
    exact ⟨m2, e2, g2, fun q hq => (f2 q hq).trans (z q (by omega))⟩
theorem RR.search {mc mr : Mm} (hR : RR mc mr) {n : Nat} (hn : GymOk (mr 1) n) {N : Nat} (hN : N ≤ 4) (sets : Int32) :
    ∃ L mc' mr', L ≤ N ∧ fX7_search 0 (nI N) sets mc = some (0, mc') ∧ fX12_findsPlans (nI N) sets mr = some (0, mr') ∧ RR mc' mr' ∧ PR L n mc' mr' ∧ Found L n mc' mr' ∧ mr' 1 = mr 1 ∧ (∃ t e : Nat, mr 1 1 = nI t ∧ mr 1 2 = nI e ∧ t + L ≤ e ∧ e ≤ 16) := by
  obtain ⟨t, e, te, e1, e16, ht, he⟩ := hn.2.2.1
  have hG := hR.1.1
  let L := if e - t < N then e - t else N
  have hLN : L ≤ N := by show (if e - t < N then e - t else N) ≤ N; split <;> omega
  have htL : t + L ≤ e := by show t + (if e - t < N then e - t else N) ≤ e; split <;> omega
  have hor : L = N ∨ t + L = e := by show (if e - t < N then e - t else N) = N ∨ t + (if e - t < N then e - t else N) = e; split <;> omega
  have hL : (if nI e - nI t < nI N then nI e - nI t else nI N) = nI L := by
    rw [pk_sub te]
    show _ = nI (if e - t < N then e - t else N)
    by_cases c : e - t < N
    · rw [if_pos (nI_lt c (by omega)), if_pos c]
    · rw [if_neg (nI_nlt (by omega) (by omega)), if_neg c]
  let m1 := up mc 64 2 (nI L)
  have z1 : ∀ q, q ≠ 64 → m1 q = mc q := fun q hq => up_row hq
  obtain ⟨m2, b1, g2, f2⟩ := prep_c (L := L) (by omega) (L + 1) 0 FL m1 (by omega) (by unfold FL; omega) up_at (hG.of_eq (fun k hk _ _ => z1 _ (by unfold gp; omega))) (fun j hj => by omega)
  have h22 : m2 64 2 = nI L := by rw [f2 64 (by decide)]; exact up_at
  let m3 := up (up (up (up (up (up m2 64 3 sets) 64 5 (nI L)) 64 6 (-1)) 64 7 0) 64 8 5) 64 9 0
  have z3 : ∀ q, q ≠ 64 → m3 q = m2 q := fun q hq => by
    show up (up (up (up (up (up m2 64 3 sets) 64 5 (nI L)) 64 6 (-1)) 64 7 0) 64 8 5) 64 9 0 q = _
    rw [up_row hq, up_row hq, up_row hq, up_row hq, up_row hq, up_row hq]
  have k3 : ∀ k, m3 64 k = if k = 9 then 0 else if k = 8 then 5 else if k = 7 then 0 else if k = 6 then -1 else if k = 5 then nI L else if k = 3 then sets else m2 64 k := fun k => by
    show up (up (up (up (up (up m2 64 3 sets) 64 5 (nI L)) 64 6 (-1)) 64 7 0) 64 8 5) 64 9 0 64 k = _
    rw [up_app, if_pos rfl, up_app, if_pos rfl, up_app, if_pos rfl, up_app, if_pos rfl, up_app, if_pos rfl, up_app, if_pos rfl]
  let r1 := up (up (up (up (up (up mr 0 16 (-1)) 0 17 0) 0 18 0) 0 19 sets) 0 20 9) 0 21 0
  have y3 : ∀ q, q ≠ 0 → r1 q = mr q := fun q hq => by
    show up (up (up (up (up (up mr 0 16 (-1)) 0 17 0) 0 18 0) 0 19 sets) 0 20 9) 0 21 0 q = _
    rw [up_row hq, up_row hq, up_row hq, up_row hq, up_row hq, up_row hq]
  have j3 : ∀ k, r1 0 k = if k = 21 then 0 else if k = 20 then 9 else if k = 19 then sets else if k = 18 then 0 else if k = 17 then 0 else if k = 16 then -1 else mr 0 k := fun k => by
    show up (up (up (up (up (up mr 0 16 (-1)) 0 17 0) 0 18 0) 0 19 sets) 0 20 9) 0 21 0 0 k = _
    rw [up_app, if_pos rfl, up_app, if_pos rfl, up_app, if_pos rfl, up_app, if_pos rfl, up_app, if_pos rfl, up_app, if_pos rfl]
  have zc : ∀ q, q < 107 → q ≠ 64 → m3 q = mc q := fun q h1 h2 => (z3 q h2).trans ((f2 q h1).trans (z1 q h2))
  have W : Wk L 0 n t e m3 r1 := by
    unfold Wk
    rw [y3 1 (by decide)]
    refine ⟨(g2 0 (by omega)).of_eq (fun k hk _ _ => z3 _ (by unfold gp; omega)), hn, hR.2.1.2.1, hR.1.2.1.of_eq (fun k hk => zc _ (by unfold rp; omega) (by unfold rp; omega)), fun i h1 h2 => ⟨mr 1, (g2 i h2).of_eq (fun k hk _ _ => z3 _ (by unfold gp; omega)), StatEq.rf, rfl⟩, ht, he⟩
  have P : PR L n m3 r1 := by
    unfold PR
    rw [k3, k3, k3, k3, k3, k3, k3, j3, j3, j3, j3, j3]
    exact ⟨h22, rfl, rfl, rfl, rfl, Or.inr ⟨rfl, rfl⟩, rfl, Or.inl ⟨rfl, rfl⟩, Or.inl rfl⟩
  obtain ⟨mc', mr', q1, q2, -, P', F', -, o', fc, fr⟩ := walk_ok (n := n) (N := N) (by omega) hLN hN htL hor e16 L 0 6 6 (by omega) (by omega) (by omega) m3 r1 0 0 0 (by omega) (by omega) W P (fun k hk => by omega)
  have q1' : rX7_walk 6 0 0 0 0 m3 = some (0, mc') := q1
  have q2' : rX12_plans 6 0 (nI N) 0 0 0 r1 = some (0, mr') := q2
  refine ⟨L, mc', mr', hLN, ?_, ?_, hR.of_eq (fun q k hq => ?_) (fun q k hq => ?_), P', F', o'.trans (y3 1 (by decide)), t, e, ht, he, htL, e16⟩
  · unfold fX7_search fX7_begin
    rw [hG.1.2.2.1, hG.1.2.1, ht, he, hL]
    show bd (lt m1 _) _ = _
    rw [lt_v]
    have b1' : fX7_begin_19 0 FL 0 m1 = some (0, m2) := b1
    have s2 : up m2 64 3 sets 64 2 = nI L := (up_ne (Or.inr (by decide))).trans h22
    rw [b1', bd_s, lt_v, s2, lt_v, lt_v, lt_v, lt_v, lt_v]
    show bd (rX7_walk 6 0 0 0 0 m3) _ = _
    rw [q1', bd_s]
  · unfold fX12_findsPlans
    rw [lt_v, lt_v, lt_v, lt_v, lt_v, lt_v]
    show bd (rX12_plans 6 0 (nI N) 0 0 0 r1) _ = _
    rw [q2', bd_s]
  · unfold scrC at hq
    rw [fc.1 q (by omega), zc q (by omega) (by omega)]
  · unfold scrR at hq
    by_cases q0 : q = 0
    · subst q0
      rw [fr.2.1 k (by omega), j3, if_neg (by omega), if_neg (by omega), if_neg (by omega), if_neg (by omega), if_neg (by omega), if_neg (by omega)]
    · rw [fr.1 q q0 (by omega) (by omega) (by omega), y3 q q0]
theorem isLong_r (x : Int32) (m : Mm) : fX12_isLong x m = some (b2 (decide (nI 0 ≤ x) && decide (x ≤ nI 4)), m) := by
  unfold fX12_isLong
  have d : fX12_isIn (Int32.toInt64 x) 0 4 m = some (b2 (decide (nI 0 ≤ x) && decide (x ≤ nI 4)), m) := isIn_r m rfl rfl rfl
  rw [d, bd_s]
  cases (decide (nI 0 ≤ x) && decide (x ≤ nI 4))
  · rw [show b2 false = 0 from rfl, gb_0]
  · rw [show b2 true = 1 from rfl, gb_1]
theorem op_best2 (a1 : Int32) : Op (fX11_best a1) (fX12_best a1) := by
  intro mc mr hR
  obtain ⟨n, hn⟩ := hR.2.1.1
  unfold fX11_best fX12_best
  rw [isLong_r, bd_s]
  rcases rngC a1 (lo := 0) (hi := 4) (by decide) (by decide) with e | ⟨⟨N, -, N4, rfl⟩, e⟩
  · rw [e, if_pos b2f]
    rcases rngF e with k | ⟨k, k2⟩
    · rw [if_pos (show a1 < 0 from k)]; exact ⟨-1, mc, mr, rfl, rfl, hR⟩
    · rw [if_neg (show ¬ a1 < 0 from k), if_neg (show ¬ a1 ≤ 4 from Int32.not_le.mpr k2)]; exact ⟨-1, mc, mr, rfl, rfl, hR⟩
  obtain ⟨L, m1, m2, -, q1, q2, r, P, F, -, -⟩ := hR.search hn N4 0
  rw [e, if_neg b2t, if_neg (nI_pos (by omega)), if_pos (show nI N ≤ 4 from nI_le (b := 4) N4 (by decide)), q1, q2, bd_s, bd_s, P.2.2.2.1]
  exact ⟨_, m1, m2, rfl, rfl, r⟩
theorem op_ways (a1 : Int32) : Op (fX11_ways a1) (fX12_ways a1) := by
  intro mc mr hR
  obtain ⟨n, hn⟩ := hR.2.1.1
  unfold fX11_ways fX12_ways
  rw [isLong_r, bd_s]
  rcases rngC a1 (lo := 0) (hi := 4) (by decide) (by decide) with e | ⟨⟨N, -, N4, rfl⟩, e⟩
  · rw [e, if_pos b2f]
    rcases rngF e with k | ⟨k, k2⟩
    · rw [if_pos (show a1 < 0 from k)]; exact ⟨-1, mc, mr, rfl, rfl, hR⟩
    · rw [if_neg (show ¬ a1 < 0 from k), if_neg (show ¬ a1 ≤ 4 from Int32.not_le.mpr k2)]; exact ⟨-1, mc, mr, rfl, rfl, hR⟩
  obtain ⟨L, m1, m2, -, q1, q2, r, P, F, -, -⟩ := hR.search hn N4 0
  rw [e, if_neg b2t, if_neg (nI_pos (by omega)), if_pos (show nI N ≤ 4 from nI_le (b := 4) N4 (by decide)), q1, q2, bd_s, bd_s, P.2.2.2.2.1]
  exact ⟨_, m1, m2, rfl, rfl, r⟩
theorem op_ith (a1 a2 : Int32) : Op (fX11_ith a1 a2) (fX12_ith a1 a2) := by
  intro mc mr hR
  obtain ⟨n, hn⟩ := hR.2.1.1
  unfold fX11_ith fX12_ith
  have d2 : fX12_isIn (Int32.toInt64 a2) 0 3 mr = some (b2 (decide (nI 0 ≤ a2) && decide (a2 ≤ nI 3)), mr) := isIn_r mr rfl rfl rfl
  rw [isLong_r, bd_s]
  rcases rngC a1 (lo := 0) (hi := 4) (by decide) (by decide) with e | ⟨⟨N, -, N4, rfl⟩, e⟩
  · rw [e, if_pos b2f]
    rcases rngF e with k | ⟨k, k2⟩
    · rw [if_pos (show a1 < 0 from k)]; exact ⟨-1, mc, mr, rfl, rfl, hR⟩
    · rw [if_neg (show ¬ a1 < 0 from k), if_pos (show 4 < a1 from k2)]; exact ⟨-1, mc, mr, rfl, rfl, hR⟩
  rw [e, if_neg b2t, if_neg (nI_pos (by omega)), if_neg (show ¬ (4 : Int32) < nI N from nI_nlt (a := 4) N4 (by decide)), d2, bd_s]
  rcases rngC a2 (lo := 0) (hi := 3) (by decide) (by decide) with e | ⟨⟨v, -, v3, rfl⟩, e⟩
  · rw [e, if_pos b2f]
    rcases rngF e with k | ⟨k, k2⟩
    · rw [if_pos (show a2 < 0 from k)]; exact ⟨-1, mc, mr, rfl, rfl, hR⟩
    · rw [if_neg (show ¬ a2 < 0 from k), if_neg (show ¬ a2 < 4 from Int32.not_lt.mpr (gt_ge (by decide) k2))]; exact ⟨-1, mc, mr, rfl, rfl, hR⟩
  obtain ⟨L, m1, m2, hL, q1, q2, r, P, F, -, -⟩ := hR.search hn N4 0
  rw [e, if_neg b2t, if_neg (nI_pos (by omega)), if_pos (show nI v < 4 from nI_lt (b := 4) (by omega) (by decide)), q1, q2, bd_s, bd_s, P.2.1, F.1]
  by_cases c : v < L
  · have c' : ¬ nI L ≤ nI v := nI_ge c (by omega)
    rw [if_neg c', if_neg c', gx_n (by omega) (by decide), gx_n (by omega) (by decide), ix_n (by omega), (F.2.2 v c).1]
    exact ⟨_, m1, m2, rfl, rfl, r⟩
  · have c' : nI L ≤ nI v := nI_le (by omega) (by omega)
    rw [if_pos c', if_pos c']
    exact ⟨_, m1, m2, rfl, rfl, r⟩
