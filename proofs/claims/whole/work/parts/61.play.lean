theorem game_ok {L n N t e : Nat} (hL : L ≤ 4) (hLN : L ≤ N) (hN : N ≤ 4) (htL : t + L ≤ e) (hor : L = N ∨ t + L = e) (he : e ≤ 16) : ∀ (d δ f fr : Nat), δ + d = L → d < f → d < fr → GameOk L n N t e δ f fr := by
  intro d
  induction d with
  | zero =>
    intro δ f fr hd hf hfr
    obtain ⟨f, rfl⟩ : ∃ z, f = z + 1 := ⟨f - 1, by omega⟩
    obtain ⟨fr, rfl⟩ : ∃ z, fr = z + 1 := ⟨fr - 1, by omega⟩
    exact game_leaf (by omega) hL hN hor he
  | succ d ih =>
    intro δ f fr hd hf hfr mc mr hW h2
    obtain ⟨f, rfl⟩ : ∃ z, f = z + 1 := ⟨f - 1, by omega⟩
    obtain ⟨fr, rfl⟩ : ∃ z, fr = z + 1 := ⟨fr - 1, by omega⟩
    have h6 := hW.2.1.2.1
    obtain ⟨g, e1, g1, g2⟩ := aside_r (a := δ) (by omega) mr
    let mr1 := upA mr 3 g
    have q1 : ∀ q, q ≠ 3 → mr1 q = mr q := fun q hq => upA_ne hq
    have W1 : Wk L δ n t e mc mr1 := by
      unfold Wk
      rw [q1 1 (by decide)]
      exact hW
    obtain ⟨r, mc', mr', r1, r2, W', o', fc, fr', z⟩ := game_loop (f := f) (fr := fr) (N := N) hL (show δ < L by omega) htL he (ih (δ + 1) f fr (by omega) (by omega) (by omega)) (n + 1) 0 FL FL mc mr1 0 (-1) (by omega) (by unfold FL; omega) (by unfold FL; omega) W1 h2 (fun k hk => by
      show upA mr 3 g 3 (47 * δ + k) = upA mr 3 g 1 k
      rw [upA_same, upA_ne (by decide)]; exact g1 k hk) (Or.inl ⟨rfl, rfl⟩)
    refine ⟨r, mc', mr', ?_, ?_, W', o'.trans (q1 1 (by decide)), fc, FGr.tr ⟨fun q q0 q3 => q1 q q3, fun k _ _ => congrFun (q1 0 (by decide)) k, fun k hk => ?_⟩ fr', fun h _ => z h⟩
    · show fX7_playOn (rX7_playOn f) (nI δ) mc = _
      unfold fX7_playOn
      rw [h2, if_pos (nI_lt (by omega) (by omega))]
      have h21 : ∀ X, fX7_playOn_21 (rX7_playOn f) (nI δ) X mc = fX7_playOn_37 (rX7_playOn f) FL (nI δ) X (3 + (δ + 1)) 0 0 mc := by
        intro X
        unfold fX7_playOn_21
        rw [p1, gx_n (by omega) (by decide), ix_n (by omega)]
      rw [h21, h21, ← r1]
      by_cases c : nI δ - nI δ / 2 * 2 = 0
      · rw [if_pos c, if_pos c]; rfl
      · rw [if_neg c, if_neg c]; rfl
    · show fX12_valueFrom (rX12_valueFrom fr) (nI δ) (nI N) mr = _
      unfold fX12_valueFrom
      rw [if_neg (fun q => by have := (nI_eq (a := δ) (b := N) (by omega) (by omega)).mp q; omega), isOver_r, bd_s, hW.2.2.2.2.2.1, hW.2.2.2.2.2.2, decide_eq_true (nI_lt (by omega) (by omega)), if_pos (show b2 (!true) = 0 from rfl), e1, bd_s]
      exact r2
    · show upA mr 3 g 3 k = mr 3 k
      rw [upA_same]; exact g2 k (by omega)
theorem RR.match_b {mc mr : Mm} (hR : RR mc mr) {n : Nat} (hn : GymOk (mr 1) n) {N : Nat} (hN : N ≤ 4) (hN1 : 1 ≤ N) :
    ∃ r mc' mr', fX7_match 0 (nI N) mc = some (0, mc') ∧ mc' 64 10 = r ∧ rX12_valueFrom 6 0 (nI N) mr = some (r, mr') ∧ RR mc' mr' ∧ (mr 1 1 < mr 1 2 → mc' 64 11 = mr' 0 22) := by
  obtain ⟨t, e, te, e1, e16, ht, he⟩ := hn.2.2.1
  have hG := hR.1.1
  let L := if e - t < N then e - t else N
  have hLN : L ≤ N := by show (if e - t < N then e - t else N) ≤ N; split <;> omega
  have htL : t + L ≤ e := by show t + (if e - t < N then e - t else N) ≤ e; split <;> omega
  have hor : L = N ∨ t + L = e := by show (if e - t < N then e - t else N) = N ∨ t + (if e - t < N then e - t else N) = e; split <;> omega
  have hL : (if nI e - nI t < nI N then nI e - nI t else nI N) = nI L := by
    rw [pk_sub te]
    show _ = nI (if e - t < N then e - t else N)
    by_cases c : e - t < N
    · rw [if_pos (nI_lt c (by omega)), if_pos c]
    · rw [if_neg (nI_nlt (by omega) (by omega)), if_neg c]
  let m1 := up mc 64 2 (nI L)
  have z1 : ∀ q, q ≠ 64 → m1 q = mc q := fun q hq => up_row hq
  obtain ⟨m2, b1, g2, f2⟩ := prep_c (L := L) (by omega) (L + 1) 0 FL m1 (by omega) (by unfold FL; omega) up_at (hG.of_eq (fun k hk _ _ => z1 _ (by unfold gp; omega))) (fun j hj => by omega)
  have h22 : m2 64 2 = nI L := by rw [f2 64 (by decide)]; exact up_at
  have zc : ∀ q, q < 107 → q ≠ 64 → m2 q = mc q := fun q h1 h2 => (f2 q h1).trans (z1 q h2)
  have W : Wk L 0 n t e m2 mr := ⟨g2 0 (by omega), hn, hR.2.1.2.1, hR.1.2.1.of_eq (fun k hk => zc _ (by unfold rp; omega) (by unfold rp; omega)), fun i h1 h2 => ⟨mr 1, g2 i h2, StatEq.rf, rfl⟩, ht, he⟩
  obtain ⟨r, mc', mr', q1, q2, -, o', fc, fr, z⟩ := game_ok (n := n) (N := N) (by omega) hLN hN htL hor e16 L 0 6 6 (by omega) (by omega) (by omega) m2 mr W h22
  have q1' : rX7_playOn 6 0 m2 = some (r, mc') := q1
  refine ⟨r, up mc' 64 10 r, mr', ?_, up_at, q2, hR.of_eq (fun q k hq => ?_) (fun q k hq => ?_), fun c => ?_⟩
  · unfold fX7_match fX7_begin
    rw [hG.1.2.2.1, hG.1.2.1, ht, he, hL]
    show bd (lt m1 _) _ = _
    have b1' : fX7_begin_19 0 FL 0 m1 = some (0, m2) := b1
    rw [lt_v, b1', bd_s, q1', bd_s, lt_v]
  · unfold scrC at hq
    rw [up_row (by omega), fc.1 q (by omega), zc q (by omega) (by omega)]
  · unfold scrR at hq
    by_cases q0 : q = 0
    · subst q0
      rw [fr.2.1 k (by omega) (by omega)]
    · rw [fr.1 q q0 (by omega)]
  · rw [up_ne (Or.inr (by decide))]
    refine z rfl ?_
    rw [ht, he] at c
    have := (nI_ltI (by omega) (by omega)).mp c
    show 0 < (if e - t < N then e - t else N)
    split <;> omega
theorem op_game (a1 : Int32) : Op (fX11_game a1) (fX12_game a1) := by
  intro mc mr hR
  obtain ⟨n, hn⟩ := hR.2.1.1
  unfold fX11_game fX12_game
  have d1 : fX12_isIn (Int32.toInt64 a1) 1 4 mr = some (b2 (decide (nI 1 ≤ a1) && decide (a1 ≤ nI 4)), mr) := isIn_r mr rfl rfl rfl
  rw [d1, bd_s]
  rcases rngC a1 (lo := 1) (hi := 4) (by decide) (by decide) with e | ⟨⟨N, N1, N4, rfl⟩, e⟩
  · rw [e, if_pos b2f]
    rcases rngF e with k | ⟨k, k2⟩
    · rw [if_pos (show a1 < 1 from k)]; exact ⟨-1, mc, mr, rfl, rfl, hR⟩
    · rw [if_neg (show ¬ a1 < 1 from k), if_neg (show ¬ a1 ≤ 4 from Int32.not_le.mpr k2)]; exact ⟨-1, mc, mr, rfl, rfl, hR⟩
  obtain ⟨r, m1, m2, q1, z, q2, rr, -⟩ := hR.match_b hn N4 N1
  rw [e, if_neg b2t, if_neg (show ¬ nI N < 1 from nI_nlt (b := 1) (by omega) (by omega)), if_pos (show nI N ≤ 4 from nI_le (b := 4) N4 (by decide)), q1, q2, bd_s, bd_s, z]
  exact ⟨r, m1, m2, rfl, rfl, rr⟩
theorem op_play (a1 : Int32) : Op (fX11_play a1) (fX12_play a1) := by
  intro mc mr hR
  obtain ⟨n, hn⟩ := hR.2.1.1
  unfold fX11_play fX12_play
  have d1 : fX12_isIn (Int32.toInt64 a1) 1 4 mr = some (b2 (decide (nI 1 ≤ a1) && decide (a1 ≤ nI 4)), mr) := isIn_r mr rfl rfl rfl
  rw [d1, bd_s]
  rcases rngC a1 (lo := 1) (hi := 4) (by decide) (by decide) with e | ⟨⟨N, N1, N4, rfl⟩, e⟩
  · rw [e, if_pos b2f]
    rcases rngF e with k | ⟨k, k2⟩
    · rw [if_pos (show a1 < 1 from k)]; exact ⟨-1, mc, mr, rfl, rfl, hR⟩
    · rw [if_neg (show ¬ a1 < 1 from k), if_neg (show ¬ a1 ≤ 4 from Int32.not_le.mpr k2)]; exact ⟨-1, mc, mr, rfl, rfl, hR⟩
  rw [e, if_neg b2t, if_neg (show ¬ nI N < 1 from nI_nlt (b := 1) (by omega) (by omega)), if_pos (show nI N ≤ 4 from nI_le (b := 4) N4 (by decide)), isOver_c hR.1.1, isOver_r, bd_s, bd_s]
  by_cases c : mr 1 1 < mr 1 2
  · obtain ⟨r, m1, m2, q1, z, q2, rr, z2⟩ := hR.match_b hn N4 N1
    rw [decide_eq_true c, if_pos (show b2 (!true) = 0 from rfl), if_pos (show b2 (!true) = 0 from rfl), q1, q2, bd_s, bd_s, z2 c]
    exact ⟨_, m1, m2, rfl, rfl, rr⟩
  · rw [decide_eq_false c, if_neg (show ¬ b2 (!false) = 0 by decide), if_neg (show ¬ b2 (!false) = 0 by decide)]
    exact ⟨-3, mc, mr, rfl, rfl, hR⟩
