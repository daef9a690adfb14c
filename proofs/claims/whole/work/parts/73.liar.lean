/-! span and liar -/
theorem ff_pos {s : Nat → Int32} {k : Int32} : ∀ (d x c : Nat) (f : Int32), 0 < (ffF s k d x c f).1 ↔ (0 < c ∨ ∃ y, x ≤ y ∧ y < x + d ∧ fitX s k y = true) := by
  intro d
  induction d with
  | zero => intro x c f; exact ⟨Or.inl, fun h => h.elim id fun ⟨y, h1, h2, _⟩ => by omega⟩
  | succ d ih =>
    intro x c f
    rw [ffF]
    by_cases e : fitX s k x = true
    · rw [if_pos e, ih]
      exact ⟨fun _ => Or.inr ⟨x, by omega, by omega, e⟩, fun _ => Or.inl (by omega)⟩
    · rw [if_neg e, ih]
      constructor
      · rintro (h | ⟨y, h1, h2, h3⟩)
        · exact Or.inl h
        · exact Or.inr ⟨y, by omega, by omega, h3⟩
      · rintro (h | ⟨y, h1, h2, h3⟩)
        · exact Or.inl h
        · by_cases ey : y = x
          · subst ey; exact absurd h3 e
          · exact Or.inr ⟨y, by omega, by omega, h3⟩
theorem ff_le {s : Nat → Int32} {k : Int32} : ∀ (d x c : Nat) (f : Int32), (ffF s k d x c f).1 ≤ c + d := by
  intro d
  induction d with
  | zero => intro x c f; exact Nat.le_refl _
  | succ d ih =>
    intro x c f
    rw [ffF]
    split
    · have := ih (x + 1) (c + 1) (if c = 0 then nI x else f); omega
    · have := ih (x + 1) c f; omega
theorem findsFits_r {R : Nat} (hR : R ≤ 6) (k : Int32) {m : Mm} (h6 : m 1 6 = nI R) : ∃ m', fX12_findsFits k m = some (0, m') ∧ m' 0 23 = nI (ffF (m 1) k 256 0 0 (-3)).1 ∧ m' 0 24 = (ffF (m 1) k 256 0 0 (-3)).2 ∧ m' 1 = m 1 ∧ Ce scrR m m' := by
  unfold fX12_findsFits
  rw [lt_v, lt_v]
  have e1 : up (up m 0 23 0) 0 24 (-3) 1 = m 1 := (up_row (by decide)).trans (up_row (by decide))
  obtain ⟨m', q, a1, a2, a3, a4⟩ := finds_r (k := k) hR 256 0 FL 0 (-3) (up (up m 0 23 0) 0 24 (-3)) (by omega) (by unfold FL; omega) (by omega) (by rw [e1]; exact h6) ((up_ne (Or.inr (by decide))).trans up_at) up_at
  rw [e1] at a1 a2
  refine ⟨m', q, a1, a2, (a3 1 (by decide)).trans e1, fun q k hq => ?_⟩
  by_cases e : q = 0
  · subst e
    have hk : k ≠ 23 ∧ k ≠ 24 := by unfold scrR at hq; omega
    rw [a4 k hk.1 hk.2, up_ne (Or.inr hk.2), up_ne (Or.inr hk.1)]
  · rw [a3 q e, up_row e, up_row e]
theorem look_ce {m m' : Mm} (h1 : ∀ q, q ≠ mp 0 0 → m' q = m q) (h2 : ∀ k, (k < 4 ∨ 8 < k) → m' (mp 0 0) k = m (mp 0 0) k) : Ce scrC m m' := fun q k hq => by
  by_cases e : q = mp 0 0
  · subst e
    exact h2 k (by unfold scrC mp at hq; omega)
  · rw [h1 q e]
theorem op_span (a1 : Int32) : Op (fX11_span a1) (fX12_span a1) := by
  intro mc mr hR
  obtain ⟨R, -, hR6, h6⟩ := hR.2.1.2.2
  have d1 : fX12_isIn (Int32.toInt64 a1) 0 3 mr = some (b2 (decide (nI 0 ≤ a1) && decide (a1 ≤ nI 3)), mr) := isIn_r mr rfl rfl rfl
  unfold fX11_span fX12_span
  rw [d1, bd_s]
  rcases rngC a1 (lo := 0) (hi := 3) (by decide) (by decide) with e | ⟨⟨w, -, w3, rfl⟩, e⟩
  · rw [e, if_pos b2f]
    rcases rngF e with k | ⟨k, k2⟩
    · rw [if_pos (show a1 < 0 from k)]; exact ⟨-1, mc, mr, rfl, rfl, hR⟩
    · rw [if_neg (show ¬ a1 < 0 from k), if_neg (show ¬ a1 ≤ 3 from Int32.not_le.mpr k2)]; exact ⟨-1, mc, mr, rfl, rfl, hR⟩
  obtain ⟨m1, q1, f1, f2, c4, cle, c5, -⟩ := look_c hR.1.2.2 h6 hR6
  obtain ⟨m2, q2, r23, r24, r1, rce⟩ := findsFits_r hR6 (-1) h6
  have hRR : RR m1 m2 := hR.of_eq (look_ce f1 f2) rce
  rw [e, if_neg b2t, if_neg (nI_pos (by omega)), if_pos (show nI w ≤ 3 from nI_le (b := 3) w3 (by decide)), q1, q2, bd_s, bd_s, c4, r23]
  generalize (ffF (mr 1) (-1) 256 0 0 (-3)).1 = c at *
  have h30 : fX12_span_30 (nI w) m2 = if nI w = 0 then some (m2 0 23, m2) else some (-3, m2) := rfl
  rw [h30, r23]
  by_cases w0 : w = 0
  · subst w0
    rw [if_pos (show nI 0 = 0 from rfl), if_pos (show nI 0 = 0 from rfl), if_pos (show nI 0 = 0 from rfl)]
    exact ⟨nI c, m1, m2, rfl, rfl, hRR⟩
  have nw : ¬ nI w = 0 := nI_ne0 (by omega) (by omega)
  rw [if_neg nw, if_neg nw, if_neg nw]
  by_cases c0 : c = 0
  · subst c0
    rw [if_pos (show nI 0 = 0 from rfl), if_pos (show nI 0 = 0 from rfl)]
    exact ⟨-3, m1, m2, rfl, rfl, hRR⟩
  have nc : ¬ nI c = 0 := nI_ne0 (by omega) (by omega)
  obtain ⟨y, hy, y2, y5, y6, y7⟩ := c5 (by omega)
  rw [if_neg nc, if_neg nc, r24, y2, y5, y6, y7, show (16 : Int32) = nI 16 from rfl, show (4 : Int32) = nI 4 from rfl, pk_div (by omega) (by decide) (by decide), pk_rem (by omega) (by decide) (by decide)]
  have e2 : nI (y / 4) - nI (y / 4) / nI 4 * nI 4 = nI (y / 4 % 4) := pk_rem (by omega) (by decide) (by decide)
  rw [pk_div (a := y) (d := 4) (by omega) (by decide) (by decide), e2, p1, p1]
  by_cases w1 : nI w = 1
  · rw [if_pos w1, if_pos w1]; exact ⟨_, m1, m2, rfl, rfl, hRR⟩
  · rw [if_neg w1, if_neg w1]
    by_cases w2 : nI w = 2
    · rw [if_pos w2, if_pos w2]; exact ⟨_, m1, m2, rfl, rfl, hRR⟩
    · rw [if_neg w2, if_neg w2]; exact ⟨_, m1, m2, rfl, rfl, hRR⟩
theorem liar_r {R L : Nat} {mr : Mm} (hR : R ≤ 6) (h6 : mr 1 6 = nI R) (h1 : ∀ k, k < R → 0 < (ffF (mr 1) (nI k) 256 0 0 (-3)).1 → L ≤ k) (h2 : L < R → 0 < (ffF (mr 1) (nI L) 256 0 0 (-3)).1) :
    ∀ (d k q : Nat) (m : Mm), k + d = R → k ≤ L → d + 1 < q → m 1 = mr 1 → Ce scrR mr m → ∃ m', fX12_liar_23 q (-3) 1 (nI k) m = some (if L < R then nI L else -3, m') ∧ Ce scrR mr m' := by
  intro d
  induction d with
  | zero =>
    intro k q m hd hk hq hm hc
    obtain ⟨q, rfl⟩ : ∃ z, q = z + 1 := ⟨q - 1, by omega⟩
    rw [fX12_liar_23, hm, h6, if_pos (nI_le (by omega) (by omega)), if_neg (show ¬ L < R by omega)]
    exact ⟨m, rfl, hc⟩
  | succ d ih =>
    intro k q m hd hk hq hm hc
    obtain ⟨q, rfl⟩ : ∃ z, q = z + 2 := ⟨q - 2, by omega⟩
    obtain ⟨m', e1, e2, -, e4, e5⟩ := findsFits_r hR (nI k) (m := m) (by rw [hm]; exact h6)
    rw [hm] at e2
    have hle := ff_le (s := mr 1) (k := nI k) 256 0 0 (-3)
    rw [fX12_liar_23, hm, h6, if_neg (nI_ge (by omega) (by omega)), if_neg (show ¬ (1 : Int32) = 0 by decide), if_neg (show ¬ (0 : Int32) ≤ -3 by decide), e1, bd_s, e2]
    by_cases c : 0 < (ffF (mr 1) (nI k) 256 0 0 (-3)).1
    · have eL : L = k := by have := h1 k (by omega) c; omega
      subst eL
      rw [if_neg (nI_nle c (by omega)), lt_v, if_pos (show L < R by omega), fX12_liar_23, e4, hm, h6, p1, if_neg (show ¬ (1 : Int32) = 0 by decide), if_pos (nI_pos' (show L < 2 ^ 31 by omega))]
      refine ⟨m', ?_, hc.tr e5⟩
      split <;> rfl
    · rw [show (ffF (mr 1) (nI k) 256 0 0 (-3)).1 = 0 by omega, if_pos (show nI 0 ≤ 0 by decide), lt_v, p1]
      refine ih (k + 1) (q + 1) m' (by omega) ?_ (by omega) (e4.trans hm) (hc.tr e5)
      rcases Nat.lt_or_ge k L with z | z
      · omega
      · have : L = k := by omega
        subst this
        exact absurd (h2 (by omega)) c
theorem op_liar : Op fX11_liar fX12_liar := by
  intro mc mr hR
  obtain ⟨R, -, hR6, h6⟩ := hR.2.1.2.2
  obtain ⟨m1, q1, f1, f2, c4, cle, -, L, c8, L6, l1, l2⟩ := look_c hR.1.2.2 h6 hR6
  obtain ⟨m2, q2, r23, -, r1, rce⟩ := findsFits_r hR6 (-1) h6
  have hRR : RR m1 m2 := hR.of_eq (look_ce f1 f2) rce
  unfold fX11_liar fX12_liar
  rw [q1, q2, bd_s, bd_s, c4, r23, c8, f2 3 (Or.inl (by decide)), hR.1.2.2.1, h6]
  by_cases c : (ffF (mr 1) (-1) 256 0 0 (-3)).1 = 0
  · have no : ∀ y, y < 256 → ¬ fitX (mr 1) (-1) y = true := fun y hy hf => by
      have := (ff_pos (s := mr 1) (k := -1) 256 0 0 (-3)).mpr (Or.inr ⟨y, by omega, by omega, hf⟩)
      omega
    rw [c, if_neg (show ¬ (0 : Int32) < nI 0 by decide), if_pos (show nI 0 = 0 from rfl)]
    have e6 : m2 1 6 = nI R := by rw [r1]; exact h6
    obtain ⟨m3, q3, ce3⟩ := liar_r (L := L) (mr := m2) hR6 e6 (fun k hk hp => by
      rw [r1] at hp
      rcases (ff_pos 256 0 0 (-3)).mp hp with z | ⟨y, y1, y2, y3⟩
      · omega
      · rw [fitX_R h6 hR6] at y3
        rcases wr_but R 0 6 (by omega) (show k < 6 by omega) y3 with z | ⟨-, z⟩
        · exact absurd (by rw [fitX_R h6 hR6]; exact z) (no y (by omega))
        · exact l2 y (by omega) k (by omega) z) (fun hL => by
      rw [r1]
      obtain ⟨-, y, y1, y2, y3⟩ := l1 (by omega)
      obtain ⟨j, j1, j2, j3, j4⟩ := wr_one R 0 6 (by omega) y2
      refine (ff_pos 256 0 0 (-3)).mpr (Or.inr ⟨y, by omega, by omega, ?_⟩)
      rw [fitX_R h6 hR6, ← y3, j3]
      exact j4) R 0 FL m2 (by omega) (Nat.zero_le _) (by unfold FL; omega) rfl Ce.rf
    have q3' : fX12_liar_23 FL (-3) 1 0 m2 = some (if L < R then nI L else -3, m3) := q3
    rw [q3']
    by_cases z : L < R
    · rw [if_pos (nI_lt z (by omega)), if_pos z]
      exact ⟨nI L, m1, m3, rfl, rfl, hRR.of_eq Ce.rf ce3⟩
    · rw [if_neg (nI_nlt (by omega) (by omega)), if_neg z]
      exact ⟨-3, m1, m3, rfl, rfl, hRR.of_eq Ce.rf ce3⟩
  · rw [if_pos (show (0 : Int32) < nI _ from nI_lt (a := 0) (by omega) (by omega)), if_neg (nI_ne0 (by omega) (by omega))]
    refine ⟨-3, m1, m2, rfl, ?_, hRR⟩
    rw [show FL = 4095 + 1 from rfl, fX12_liar_23]
    rw [if_pos (show (0 : Int32) = 0 from rfl)]
    split <;> rfl
