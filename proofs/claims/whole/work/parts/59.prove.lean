theorem Tr.eq2 {m m' : Mm} {s : Nat → Int32} {n : Nat} (h : Tr 2 m s n) (e : ∀ q, ((94 ≤ q ∧ q < 107) ∨ (14 ≤ q ∧ q < 24)) → m' q = m q) : Tr 2 m' s n := by
  obtain ⟨a, b, c, d⟩ := h
  have r2 : rI 2 = 0 := by decide
  refine ⟨a.of_eq (fun k hk _ _ => e _ (by unfold gp; omega)), b, c, ?_⟩
  rw [r2] at d ⊢
  exact d.of_eq (fun k hk => e _ (by unfold rp; omega))
theorem Pl.eq2 {m m' : Mm} {s0 : Nat → Int32} {n : Nat} (h : Pl m s0 n) (e1 : m' 1 = m 1) (e3 : m' 3 = m 3) : Pl m' s0 n := by
  unfold Pl
  rw [e1, e3]
  exact h
theorem prove_b {L n t e : Nat} {s0 : Nat → Int32} (hL : L ≤ 4) (htL : t + L ≤ e) (he : e ≤ 16) : ∀ (d k q q' : Nat) (m m' : Mm), k + d = L → d < q → d < q' → Tr 2 m (m' 1) n → Pl m' s0 n → m 0 13 = nI L → m' 0 18 = nI L → (∀ j, j < L → m 67 j = m' 7 j ∧ Bd 0 n (m' 7 j)) → (∀ j, j < 4 → ∀ w, w < 3 → m (10 + j) w = m' 8 (3 * j + w)) → m' 1 1 = nI (t + k) → m' 1 2 = nI e →
    ∃ m2 m3, fX11_prove_48 q (nI k) m = some (nI L, m2) ∧ fX12_prove_22 q' (nI k) m' = some (nI L, m3) ∧ (∀ j, j < 4 → ∀ w, w < 3 → m2 (10 + j) w = m3 8 (3 * j + w)) ∧ m3 1 = s0 ∧ (∀ q, (q < 10 ∨ (14 ≤ q ∧ q < 94) ∨ 107 ≤ q) → m2 q = m q) ∧ (∀ q, q ≠ 0 → q ≠ 1 → q ≠ 8 → m3 q = m' q) ∧ (∀ k, k ≠ 13 → k ≠ 26 → m3 0 k = m' 0 k) ∧ m3 0 26 = nI L := by
  intro d
  induction d with
  | zero =>
    intro k q q' m m' hd hq hq' hT hP h13 h18 h67 hρ h1 h2
    obtain ⟨q, rfl⟩ : ∃ z, q = z + 1 := ⟨q - 1, by omega⟩
    obtain ⟨q', rfl⟩ : ∃ z, q' = z + 1 := ⟨q' - 1, by omega⟩
    have c : nI L ≤ nI k := nI_le (by omega) (by omega)
    have z18 : upA m' 1 s0 0 18 = nI L := (congrFun (upA_ne (by decide)) 18).trans h18
    rw [fX11_prove_48, h13, if_pos c, fX12_prove_22, h18, if_pos c, hP.back, bd_s, lt_v, z18, up_at]
    refine ⟨m, _, rfl, rfl, fun j hj w hw => ?_, (up_row (by decide)).trans upA_same, fun _ _ => rfl, fun q q0 q1 q8 => (up_row q0).trans (upA_ne q1), fun k k13 k26 => (up_ne (Or.inr k26)).trans (congrFun (upA_ne (by decide)) k), up_at⟩
    rw [up_row (by decide), upA_ne (by decide)]
    exact hρ j hj w hw
  | succ d ih =>
    intro k q q' m m' hd hq hq' hT hP h13 h18 h67 hρ h1 h2
    obtain ⟨q, rfl⟩ : ∃ z, q = z + 1 := ⟨q - 1, by omega⟩
    obtain ⟨q', rfl⟩ : ∃ z, q' = z + 1 := ⟨q' - 1, by omega⟩
    have h6 := hT.2.1.2.1
    have c : ¬ nI L ≤ nI k := nI_ge (by omega) (by omega)
    have k4 : k < 4 := by omega
    obtain ⟨a67, ⟨a, -, an, ha⟩⟩ := h67 k (by omega)
    have over : m' 1 1 < m' 1 2 := by rw [h1, h2]; exact nI_lt (by omega) (by omega)
    rw [ha] at a67
    let c1 := up m (10 + k) 0 (nI a)
    let r1 := up m' 8 (3 * k) (nI a)
    have T1 : Tr 2 c1 (m' 1) n := hT.eq2 (fun q hq => up_row (by omega))
    have P1 : Pl r1 s0 n := hP.eq2 (up_row (by decide)) (up_row (by decide))
    have r11 : r1 1 = m' 1 := up_row (by decide)
    obtain ⟨c2, q1, t2, f2, -⟩ := T1.go (by decide) an over
    obtain ⟨r2, q2, e2, p2', -, g2⟩ := P1.go (a := a) (by omega) (by rw [r11]; exact over)
    rw [r11] at q2 e2
    let c3 := up c2 (10 + k) 1 (worthS (m' 1) a)
    let r3 := up r2 8 (3 * k + 1) (worthS (m' 1) a)
    have T3 : Tr 2 c3 (goS (m' 1) a) n := t2.eq2 (fun q hq => up_row (by omega))
    have P3 : Pl r3 s0 n := p2'.eq2 (up_row (by decide)) (up_row (by decide))
    have r31 : r3 1 = goS (m' 1) a := (up_row (by decide)).trans e2
    have sc := spent_c T3.1 T3.2.1
    have sr := spent_r (m := r3) (n := n) (by rw [r31]; exact T3.2.1)
    rw [r31] at sr
    let c4 := up c3 (10 + k) 2 (nI (spN (goS (m' 1) a)))
    let r4 := up r3 8 (3 * k + 2) (nI (spN (goS (m' 1) a)))
    have r41 : r4 1 = goS (m' 1) a := (up_row (by decide)).trans r31
    have c2q : ∀ q, (q < 94 ∨ 107 ≤ q) → c2 q = c1 q := fun q hq => f2 q (by unfold gymP gp; omega)
    have c4q : ∀ q, (q < 10 ∨ (14 ≤ q ∧ q < 94) ∨ 107 ≤ q) → c4 q = m q := fun q hq => by
      show up c3 (10 + k) 2 _ q = _
      rw [up_row (by omega)]
      show up c2 (10 + k) 1 _ q = _
      rw [up_row (by omega), c2q q (by omega)]
      exact up_row (by omega)
    have r4q : ∀ q j, q ≠ 1 → q ≠ 8 → ¬ (q = 0 ∧ j = 13) → r4 q j = m' q j := fun q j h1 h8 h0 => by
      show up r3 8 (3 * k + 2) _ q j = _
      rw [up_row h8]
      show up r2 8 (3 * k + 1) _ q j = _
      rw [up_row h8, g2 q j (by omega)]
      exact congrFun (up_row h8) j
    have r28 : ∀ j, r2 8 j = r1 8 j := fun j => g2 8 j (by omega)
    have ρ4 : ∀ j, j < 4 → ∀ w, w < 3 → c4 (10 + j) w = r4 8 (3 * j + w) := by
      intro j hj w hw
      show up (up c2 (10 + k) 1 (worthS (m' 1) a)) (10 + k) 2 (nI (spN (goS (m' 1) a))) (10 + j) w = up (up r2 8 (3 * k + 1) (worthS (m' 1) a)) 8 (3 * k + 2) (nI (spN (goS (m' 1) a))) 8 (3 * j + w)
      rw [up_app, up_app, up_app, up_app, if_pos rfl, if_pos rfl, c2q _ (by omega), r28]
      show _ = (if 3 * j + w = 3 * k + 2 then _ else if 3 * j + w = 3 * k + 1 then _ else up m' 8 (3 * k) (nI a) 8 (3 * j + w))
      rw [show c1 (10 + j) w = up m (10 + k) 0 (nI a) (10 + j) w from rfl, up_app, up_app, if_pos rfl]
      by_cases ej : j = k
      · subst ej
        rw [if_pos rfl, if_pos rfl, if_pos rfl]
        rcases (show w = 0 ∨ w = 1 ∨ w = 2 by omega) with rfl | rfl | rfl
        · rw [if_neg (by decide), if_neg (by decide), if_pos rfl, if_neg (by omega), if_neg (by omega), if_pos (by omega)]
        · rw [if_neg (by decide), if_pos rfl, if_neg (by omega), if_pos rfl]
        · rw [if_pos rfl, if_pos rfl]
      · rw [if_neg (by omega), if_neg (by omega), if_neg (by omega), if_neg (by omega), if_neg (by omega), if_neg (by omega)]
        exact hρ j hj w hw
    obtain ⟨m2, m3, b1, b2, b3, b4, b5, b6, b7, b8⟩ := ih (k + 1) q q' c4 r4 (by omega) (by omega) (by omega) (by rw [r41]; exact T3.eq2 (fun q hq => up_row (by omega))) (P3.eq2 (up_row (by decide)) (up_row (by decide))) (by rw [c4q 0 (by omega)]; exact h13) (by rw [r4q 0 18 (by decide) (by decide) (by omega)]; exact h18)
      (fun j hj => by rw [c4q 67 (by omega), r4q 7 j (by decide) (by decide) (by omega)]; exact h67 j hj) ρ4 (by rw [r41, goS_1 hT.2.1 an, h1, p1]; rfl) (by rw [r41, goS_2 hT.2.1 an]; exact h2)
    refine ⟨m2, m3, ?_, ?_, b3, b4, fun q hq => (b5 q hq).trans (c4q q hq), fun q q0 q1 q8 => by rw [b6 q q0 q1 q8]; exact funext fun j => r4q q j q1 q8 (by omega), fun k k13 k26 => by rw [b7 k k13 k26]; exact r4q 0 k (by decide) (by decide) (by omega), b8⟩
    · rw [fX11_prove_48, h13, if_neg c, gx_n k4 (by decide), ix_n (by omega), a67]
      show lt c1 _ = _
      have c167 : c1 67 k = nI a := by rw [show c1 67 = m 67 from up_row (by omega)]; exact a67
      rw [lt_v, c167, q1, bd_s]
      show lt c3 _ = _
      rw [lt_v, sc, bd_s]
      show lt c4 _ = _
      rw [lt_v, lt_v, p1]
      exact b1
    · rw [fX12_prove_22, h18, if_neg c, gx_n k4 (by decide), ix_n (by omega), show (3 : Int32) * nI k = nI (3 * k) from pk_mul 3 k, gx_n (by omega) (by decide), ix_n (by omega), ha]
      show lt r1 _ = _
      have r17 : r1 7 k = nI a := by rw [show r1 7 = m' 7 from up_row (by decide)]; exact ha
      rw [lt_v, r17, q2, bd_s, p1 (n := 3 * k), gx_n (by omega) (by decide), ix_n (by omega)]
      show lt r3 _ = _
      rw [lt_v, sr, bd_s, p2 (n := 3 * k), gx_n (by omega) (by decide), ix_n (by omega)]
      show lt r4 _ = _
      rw [lt_v, lt_v, p1 (n := k)]
      exact b2
theorem op_prove (a1 : Int32) : Op (fX11_prove a1) (fX12_prove a1) := by
  intro mc mr hR
  obtain ⟨n, hn⟩ := hR.2.1.1
  unfold fX11_prove fX12_prove
  rw [isLong_r, bd_s]
  rcases rngC a1 (lo := 0) (hi := 4) (by decide) (by decide) with e | ⟨⟨N, -, N4, rfl⟩, e⟩
  · rw [e, if_pos b2f]
    rcases rngF e with k | ⟨k, k2⟩
    · rw [if_pos (show a1 < 0 from k)]; exact ⟨-1, mc, mr, rfl, rfl, hR⟩
    · rw [if_neg (show ¬ a1 < 0 from k), if_neg (show ¬ a1 ≤ 4 from Int32.not_le.mpr k2)]; exact ⟨-1, mc, mr, rfl, rfl, hR⟩
  obtain ⟨L, m1, m2, hL, q1, q2, r, P, F, eq1, t, en, ht, he, htL, e16⟩ := hR.search hn N4 0
  rw [e, if_neg b2t, if_neg (nI_pos (by omega)), if_pos (show nI N ≤ 4 from nI_le (b := 4) N4 (by decide)), q1, q2, bd_s, bd_s]
  have hn2 : GymOk (m2 1) n := by rw [eq1]; exact hn
  obtain ⟨m3, q3, t3, f3⟩ := r.tr hn2 (i := 2) (by decide)
  obtain ⟨m4, q4, p4', e4, c4⟩ := r.aside hn2
  have z3 : ∀ q, (q < 94 ∨ 107 ≤ q) → m3 q = m1 q := fun q hq => f3 q (by unfold gymP gp; omega)
  have h5 : m3 64 5 = nI L := by rw [z3 64 (by omega)]; exact P.2.1
  let m5 := up m3 0 13 (nI L)
  have T5 : Tr 2 m5 (m4 1) n := by rw [e4]; exact t3.eq2 (fun q hq => up_row (by omega))
  obtain ⟨w1, w2, w3⟩ := r.2.2.2.2.1
  obtain ⟨m6, m7, b1, b2', b3, b4, b5, b6, b7, b8⟩ := prove_b (L := L) (n := n) (s0 := m2 1) (by omega) htL e16 L 0 FL FL m5 m4 (by omega) (by unfold FL; omega) (by unfold FL; omega) T5 p4' up_at (by rw [c4 0 18 (by decide)]; exact F.1)
    (fun j hj => by rw [show m5 67 = m1 67 from (up_row (by decide)).trans (z3 67 (by omega)), c4 7 j (by decide)]; exact F.2.2 j hj)
    (fun j hj w hw => by rw [show m5 (10 + j) = m1 (10 + j) from (up_row (by omega)).trans (z3 _ (by omega)), c4 8 _ (by decide)]; exact w3 j hj w hw)
    (by rw [e4, eq1]; exact ht) (by rw [e4, eq1]; exact he)
  have b1' : fX11_prove_48 FL 0 m5 = some (nI L, m6) := b1
  have b2'' : fX12_prove_22 FL 0 m4 = some (nI L, m7) := b2'
  have m5q : ∀ q, q ≠ 0 → (q < 94 ∨ 107 ≤ q) → m5 q = m1 q := fun q h0 hq => (up_row h0).trans (z3 q hq)
  refine ⟨nI L, m6, m7, ?_, ?_, ?_⟩
  · rw [q3, bd_s, lt_v, h5]
    exact b1'
  · rw [q4, bd_s]
    exact b2''
  · -- first the trial, then the rows
    let mI : Mm := fun q => if q < 14 then m1 q else m6 q
    let rI' : Mm := fun q => if q = 8 then m2 q else if q = 0 then (fun k => if k = 26 then m2 0 26 else m7 0 k) else m7 q
    have hI : RR mI rI' := by
      refine r.of_eq (fun q k hq => ?_) (fun q k hq => ?_)
      · unfold scrC at hq
        show (if q < 14 then m1 q else m6 q) k = _
        by_cases h : q < 14
        · rw [if_pos h]
        · rw [if_neg h, b5 q (by omega), m5q q (by omega) (by omega)]
      · unfold scrR at hq
        show (if q = 8 then m2 q else if q = 0 then (fun k => if k = 26 then m2 0 26 else m7 0 k) else m7 q) k = _
        by_cases h8 : q = 8
        · rw [if_pos h8]
        · rw [if_neg h8]
          by_cases h0 : q = 0
          · subst h0
            rw [if_pos rfl]
            show (if k = 26 then m2 0 26 else m7 0 k) = _
            by_cases k26 : k = 26
            · rw [if_pos k26, k26]
            · rw [if_neg k26, b7 k (by omega) k26, c4 0 k (by decide)]
          · rw [if_neg h0]
            by_cases h1 : q = 1
            · subst h1; rw [b4]
            · rw [b6 q h0 h1 h8, c4 q k (by omega)]
    refine hI.rows ⟨?_, ?_, b3⟩ (fun q q0 hq => ?_) (fun k hk => ?_) (fun q q0 q8 => ?_) (fun k hk => ?_)
    · rw [b5 0 (by omega), b8]; exact up_at
    · rw [b8]; exact ⟨L, by omega, by omega, rfl⟩
    · show m6 q = (if q < 14 then m1 q else m6 q)
      by_cases h : q < 14
      · rw [if_pos h, b5 q (by omega), m5q q q0 (by omega)]
      · rw [if_neg h]
    · show m6 0 k = (if 0 < 14 then m1 0 else m6 0) k
      rw [if_pos (by decide), b5 0 (by omega)]
      exact (up_ne (Or.inr hk)).trans (congrFun (z3 0 (by omega)) k)
    · show m7 q = (if q = 8 then m2 q else if q = 0 then (fun k => if k = 26 then m2 0 26 else m7 0 k) else m7 q)
      rw [if_neg q8, if_neg q0]
    · show m7 0 k = (if 0 = 8 then m2 0 else if 0 = 0 then (fun k => if k = 26 then m2 0 26 else m7 0 k) else m7 0) k
      rw [if_neg (by decide), if_pos rfl]
      show m7 0 k = (if k = 26 then m2 0 26 else m7 0 k)
      rw [if_neg hk]
