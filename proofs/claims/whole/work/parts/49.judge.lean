def isA (x : Int32) (n : Nat) : Bool := decide (nI 0 ≤ x) && decide (x ≤ nI n)
theorem isA_cases (x : Int32) {n : Nat} (hn : n ≤ 6) : isA x n = false ∨ (isA x n = true ∧ ∃ a, a ≤ n ∧ x = nI a) := by
  rcases rngC x (lo := 0) (hi := n) (by omega) (by decide) with e | ⟨⟨v, -, h, r⟩, e⟩
  · exact Or.inl e
  · exact Or.inr ⟨e, v, h, r⟩
theorem isAct_r {m : Mm} {n : Nat} (h0 : m 1 0 = nI n) (x : Int32) : fX12_isAct x m = some (b2 (isA x n), m) := by
  unfold fX12_isAct
  have d : fX12_isIn (Int32.toInt64 x) 0 (Int32.toInt64 (nI n)) m = some (b2 (isA x n), m) := isIn_r m rfl rfl rfl
  rw [h0, d, bd_s]
  cases isA x n
  · rw [show b2 false = 0 from rfl, gb_0]
  · rw [show b2 true = 1 from rfl, gb_1]
theorem isAct_c {i : Nat} {m : Mm} {s : Nat → Int32} {n : Nat} (hG : GymIs i m s) (h0 : s 0 = nI n) (x : Int32) : fX1_isAct i x m = some (b2 (isA x n), m) := by
  unfold fX1_isAct isA
  rw [hG.1.1, h0]
  by_cases c1 : x < 0
  · rw [if_pos c1, decide_eq_false (show ¬ nI 0 ≤ x from Int32.not_le.mpr c1)]; rfl
  · rw [if_neg c1, decide_eq_true (show nI 0 ≤ x from Int32.not_lt.mp c1)]
    by_cases c2 : nI n < x
    · rw [if_pos c2, decide_eq_false (Int32.not_le.mpr c2)]; rfl
    · rw [if_neg c2, decide_eq_true (Int32.not_lt.mp c2)]; rfl
def judgeF (ρ : Nat → Nat → Int32) (n : Nat) : Nat → Nat → (Nat → Int32) → Int32
  | 0, _, _ => 0
  | d + 1, k, s =>
    if ¬ s 1 < s 2 ∨ isA (ρ k 0) n = false then nI (k + 1) else if worthS s (ix (ρ k 0)) ≠ ρ k 1 then nI (k + 1)
    else if nI (spN (goS s (ix (ρ k 0)))) ≠ ρ k 2 then nI (k + 1) else judgeF ρ n d (k + 1) (goS s (ix (ρ k 0)))
theorem judge_c {ρ : Nat → Nat → Int32} {n c : Nat} (hc : c ≤ 4) : ∀ (d k q : Nat) (m : Mm) (s : Nat → Int32), k + d = c → d < q → Tr 2 m s n → m 0 13 = nI c → (∀ k, k < 4 → ∀ w, w < 3 → m (10 + k) w = ρ k w) →
    ∃ m', fX11_judge_13 q (nI k) m = some (judgeF ρ n d k s, m') ∧ Fr (gymP 2) m m' := by
  intro d
  induction d with
  | zero =>
    intro k q m s hd hq hT h13 hρ
    obtain ⟨q, rfl⟩ : ∃ q', q = q' + 1 := ⟨q - 1, by omega⟩
    rw [fX11_judge_13, h13, if_pos (nI_le (by omega) (by omega))]
    exact ⟨m, rfl, Fr.rf⟩
  | succ d ih =>
    intro k q m s hd hq hT h13 hρ
    obtain ⟨q, rfl⟩ : ∃ q', q = q' + 1 := ⟨q - 1, by omega⟩
    rw [fX11_judge_13, h13, if_neg (nI_ge (by omega) (by omega)), gx_n (by omega) (by decide), ix_n (by omega), lt_v, isOver_c hT.1, bd_s, hρ k (by omega) 0 (by decide), judgeF]
    by_cases c1 : s 1 < s 2
    · rw [decide_eq_true c1, if_pos (show b2 (!true) = 0 from rfl), isAct_c hT.1 hT.2.1.1, bd_s]
      rcases isA_cases (ρ k 0) hT.2.1.2.1 with e | ⟨e, a, ha, hx⟩
      · rw [e, if_pos b2f, p1, if_pos (Or.inr rfl)]
        exact ⟨m, rfl, Fr.rf⟩
      · rw [e, if_neg b2t, if_neg (fun q => q.elim (fun z => z c1) (fun z => absurd z (by decide))), hx, ix_n (by have := hT.2.1.2.1; omega)]
        obtain ⟨m1, q1, t1, f1, -⟩ := hT.go (by decide) ha c1
        have hp : ∀ q, q < 68 → m1 q = m q := fun q hq => f1 q (by unfold gymP gp; omega)
        rw [q1, bd_s, hp _ (by omega), hρ k (by omega) 1 (by decide)]
        by_cases c2 : worthS s a = ρ k 1
        · rw [if_pos c2, if_neg (fun q => q c2), spent_c t1.1 t1.2.1, bd_s, hp _ (by omega), hρ k (by omega) 2 (by decide)]
          by_cases c3 : nI (spN (goS s a)) = ρ k 2
          · rw [if_pos c3, if_neg (fun q => q c3), lt_v, p1]
            obtain ⟨m2, q2, f2⟩ := ih (k + 1) q m1 _ (by omega) (by omega) t1 (by rw [hp _ (by omega)]; exact h13) (fun k hk w hw => by rw [hp _ (by omega)]; exact hρ k hk w hw)
            exact ⟨m2, q2, f1.tr f2⟩
          · rw [if_neg c3, if_pos c3, p1]
            exact ⟨m1, rfl, f1⟩
        · rw [if_neg c2, if_pos c2, p1]
          exact ⟨m1, rfl, f1⟩
    · rw [decide_eq_false c1, if_neg (show ¬ b2 (!false) = 0 by decide), p1, if_pos (Or.inl c1)]
      exact ⟨m, rfl, Fr.rf⟩
theorem judge_r {ρ : Nat → Nat → Int32} {n c : Nat} {s0 : Nat → Int32} (hc : c ≤ 4) : ∀ (d k q : Nat) (m : Mm), k + d = c → d + 1 < q → Pl m s0 n → m 0 26 = nI c → (∀ k, k < 4 → ∀ w, w < 3 → m 8 (3 * k + w) = ρ k w) →
    ∃ m', fX12_judge_9 q (nI k) 1 m = some (judgeF ρ n d k (m 1), m') ∧ m' 1 = s0 ∧ (∀ q k, ¬ (q = 1 ∨ (q = 0 ∧ k = 13)) → m' q k = m q k) := by
  have no : ∀ (k q : Nat) (m : Mm), Pl m s0 n → fX12_judge_9 (q + 1) (nI k) 0 m = some (nI k, upA m 1 s0) := by
    intro k q m hP
    rw [fX12_judge_9, if_pos rfl, fX12_judge_97, hP.back, bd_s, if_pos rfl]
    split <;> rfl
  intro d
  induction d with
  | zero =>
    intro k q m hd hq hP h26 hρ
    obtain ⟨q, rfl⟩ : ∃ q', q = q' + 1 := ⟨q - 1, by omega⟩
    rw [fX12_judge_9, h26, if_pos (nI_le (by omega) (by omega)), fX12_judge_97, hP.back, bd_s, if_neg (by decide)]
    exact ⟨_, rfl, upA_same, fun q k hq => congrFun (upA_ne (by omega)) k⟩
  | succ d ih =>
    intro k q m hd hq hP h26 hρ
    obtain ⟨q, rfl⟩ : ∃ q', q = q' + 1 + 1 := ⟨q - 2, by omega⟩
    have i0 : m 8 (3 * k) = ρ k 0 := hρ k (by omega) 0 (by decide)
    rw [fX12_judge_9, h26, if_neg (nI_ge (by omega) (by omega)), if_neg (show ¬ (1 : Int32) = 0 by decide), show (3 : Int32) * nI k = nI (3 * k) from pk_mul 3 k, gx_n (by omega) (by decide), ix_n (by omega), isAct_r hP.1.1, bd_s, i0, judgeF]
    rcases isA_cases (ρ k 0) hP.1.2.1 with e | ⟨e, a, ha, hx⟩
    · rw [e, if_pos b2f, lt_v, p1, no _ _ _ hP, if_pos (Or.inr rfl)]
      exact ⟨_, rfl, upA_same, fun q k hq => congrFun (upA_ne (by omega)) k⟩
    · rw [e, if_neg b2t, isOver_r, bd_s]
      by_cases c1 : m 1 1 < m 1 2
      · obtain ⟨m1, q1, e1, p, -, f⟩ := hP.go ha c1
        have f8 : ∀ k, m1 8 k = m 8 k := fun k => f 8 k (by omega)
        rw [decide_eq_true c1, if_pos (show b2 (!true) = 0 from rfl), i0, hx, q1, bd_s, p1 (n := 3 * k), gx_n (by omega) (by decide), ix_n (by omega), f8, hρ k (by omega) 1 (by decide), if_neg (show ¬ (¬ m 1 1 < m 1 2 ∨ true = false) from fun q => q.elim (fun z => z c1) (fun z => absurd z (by decide))), ix_n (by have := hP.1.2.1; omega)]
        by_cases c2 : worthS (m 1) a = ρ k 1
        · rw [if_pos c2, if_neg (fun q => q c2), spent_r p.1, bd_s, p2 (n := 3 * k), gx_n (by omega) (by decide), ix_n (by omega), f8, hρ k (by omega) 2 (by decide), e1]
          by_cases c3 : nI (spN (goS (m 1) a)) = ρ k 2
          · rw [if_pos c3, if_neg (fun q => q c3), lt_v, p1 (n := k)]
            obtain ⟨m2, q2, e2, f2⟩ := ih (k + 1) (q + 1) m1 (by omega) (by omega) p (by rw [f 0 26 (by omega)]; exact h26) (fun k hk w hw => by rw [f8]; exact hρ k hk w hw)
            rw [e1] at q2
            exact ⟨m2, q2, e2, fun q k hq => (f2 q k hq).trans (f q k hq)⟩
          · rw [if_neg c3, if_pos c3, lt_v, p1 (n := k), no _ _ _ p]
            exact ⟨_, rfl, upA_same, fun q k hq => by rw [upA_ne (by omega)]; exact f q k hq⟩
        · rw [if_neg c2, if_pos c2, lt_v, p1 (n := k), no _ _ _ p]
          exact ⟨_, rfl, upA_same, fun q k hq => by rw [upA_ne (by omega)]; exact f q k hq⟩
      · rw [decide_eq_false c1, if_neg (show ¬ b2 (!false) = 0 by decide), lt_v, p1, no _ _ _ hP, if_pos (Or.inl c1)]
        exact ⟨_, rfl, upA_same, fun q k hq => congrFun (upA_ne (by omega)) k⟩
/-- of a trial in both: the two still belong together -/
theorem RR.trial {mc mr mc' m3 m4 : Mm} (hR : RR mc mr) (f : Fr (gymP 2) mc mc') (c3 : ∀ q k, q ≠ 3 → m3 q k = mr q k) (e4 : m4 1 = mr 1) (f4 : ∀ q k, ¬ (q = 1 ∨ (q = 0 ∧ k = 13)) → m4 q k = m3 q k) : RR mc' m4 :=
  hR.of_eq (ce_trial (by decide) f) (fun q k hq => by
    unfold scrR at hq
    by_cases h1 : q = 1
    · subst h1; rw [e4]
    · rw [f4 q k (by omega), c3 q k (by omega)])
theorem op_judge : Op fX11_judge fX12_judge := by
  intro mc mr hR
  obtain ⟨n, hn⟩ := hR.2.1.1
  obtain ⟨w1, ⟨c, -, c4, hc⟩, w3⟩ := hR.2.2.2.2.1
  obtain ⟨m1, q1, t1, f1⟩ := hR.tr hn (i := 2) (by decide)
  have hp : ∀ q, q < 68 → m1 q = mc q := fun q hq => f1 q (by unfold gymP gp; omega)
  obtain ⟨m2, q2, f2⟩ := judge_c (ρ := fun k w => mr 8 (3 * k + w)) c4 c 0 FL m1 _ (by omega) (by unfold FL; omega) t1 (by rw [hp _ (by omega), w1, hc]) (fun k hk w hw => by rw [hp _ (by omega)]; exact w3 k hk w hw)
  obtain ⟨m3, q3, p3, e3, c3⟩ := hR.aside hn
  obtain ⟨m4, q4, e4, f4⟩ := judge_r (ρ := fun k w => mr 8 (3 * k + w)) (s0 := mr 1) c4 c 0 FL m3 (by omega) (by unfold FL; omega) p3 (by rw [c3 0 26 (by decide), hc]) (fun k hk w hw => c3 8 _ (by decide))
  rw [e3] at q4
  unfold fX11_judge fX12_judge
  rw [q1, q3, bd_s, bd_s]
  exact ⟨_, m2, m4, q2, q4, hR.trial (f1.tr f2) c3 e4 f4⟩
/-! an item, if there is one so far on -/
theorem item_b {mc mr : Mm} {t : Nat} (h : SheetIs mc mr t) (ht : t < 4) (x : Int32) {k : Nat} (hk : k ≤ 20) :
    ∃ z, z ≤ 40 ∧ mr 10 t = nI z ∧ fX3_hasItem (nI t) (x + nI k) mc = some (b2 (isS (x + nI k) z), mc) ∧ ∀ m, fX12_isIn (Int32.toInt64 x + Int32.toInt64 (nI k)) 0 (Int32.toInt64 (mr 10 t) - 1) m = some (b2 (isS (x + nI k) z), m) := by
  obtain ⟨s1, s2, s3, ⟨z, -, z40, hz⟩, s5⟩ := h
  refine ⟨z, z40, hz, ?_, fun m => ?_⟩
  · unfold fX3_hasItem isS
    rw [gx_n (by omega) (by decide), ix_n (by omega), s3, hz]
    by_cases c1 : x + nI k < 0
    · rw [if_pos c1, decide_eq_false (fun q => q c1)]; rfl
    · rw [if_neg c1, decide_eq_true c1]
      by_cases c2 : nI z ≤ x + nI k
      · rw [if_pos c2, decide_eq_false (Int32.not_lt.mpr c2)]; rfl
      · rw [if_neg c2, decide_eq_true (Int32.not_le.mp c2)]; rfl
  · have hl : (Int32.toInt64 x + Int32.toInt64 (nI k)).toInt = x.toInt + k := by rw [lg_i2l_add, toI (by omega)]
    have hr : (Int32.toInt64 (mr 10 t) - 1).toInt = z - 1 := by
      rw [hz, show (1 : Int64) = Int32.toInt64 (nI 1) from rfl, lg_i2l_sub, toI (by omega), toI (by omega)]
      rfl
    have hx : (x + nI k).toInt = (x.toInt + k).bmod (2 ^ 32) := by rw [Int32.toInt_add, toI (by omega)]
    have xlo := Int32.le_toInt x
    have xhi := Int32.toInt_lt x
    have l1 : (lg_cmp (Int32.toInt64 x + Int32.toInt64 (nI k)) 0 < 0) = (x.toInt + k < 0) := by
      apply propext
      rw [lg_cmp_lt, Int64.lt_iff_toInt_lt, hl]
      rfl
    have l2 : (0 < lg_cmp (Int32.toInt64 x + Int32.toInt64 (nI k)) (Int32.toInt64 (mr 10 t) - 1)) = ((z : Int) - 1 < x.toInt + k) := by
      apply propext
      rw [lg_cmp_gt, Int64.lt_iff_toInt_lt, hl, hr]
    unfold fX12_isIn isS
    have e1 : decide (¬ x + nI k < 0) = decide (¬ (x + nI k).toInt < 0) := d_congr (by rw [i_lt]; rfl)
    have e2 : decide (x + nI k < nI z) = decide ((x + nI k).toInt < z) := d_congr (by rw [i_lt, toI (by omega)])
    have hb : (x.toInt + (k : Int)).bmod (2 ^ 32) = if x.toInt + k < 2 ^ 31 then x.toInt + k else x.toInt + k - 2 ^ 32 := by
      rw [Int.bmod_def]
      split <;> split <;> omega
    rw [e1, e2, hx, hb]
    by_cases c1 : x.toInt + k < 0
    · rw [if_pos (by rw [l1]; exact c1), if_pos (by omega), decide_eq_false (fun q => q c1)]; rfl
    · rw [if_neg (by rw [l1]; exact c1)]
      by_cases c2 : (z : Int) - 1 < x.toInt + k
      · rw [if_pos (by rw [l2]; exact c2)]
        by_cases c3 : x.toInt + k < 2 ^ 31
        · rw [if_pos c3, decide_eq_false (show ¬ x.toInt + k < (z : Int) by omega), Bool.and_false]; rfl
        · rw [if_neg c3, decide_eq_false (show ¬ ¬ x.toInt + k - 2 ^ 32 < 0 from fun q => q (by omega))]; rfl
      · rw [if_neg (by rw [l2]; exact c2), if_pos (by omega), decide_eq_true c1, decide_eq_true (show x.toInt + k < (z : Int) by omega)]; rfl
theorem refuse_b {mc mr : Mm} {t : Nat} (h : SheetIs mc mr t) (ht : t < 4) (a : Int32) :
    ∃ r : Int32, (r = -11 ∨ r = -13 ∨ r = 0) ∧ (r = 0 → mr 9 t = a ∧ Bd 0 4 (mr 9 t)) ∧ fX3_refusal (nI t) a mc = some (r, mc) ∧ ∀ m, m 9 = mr 9 → fX12_lacks (nI t) a m = some (r, m) := by
  obtain ⟨s1, s2, -⟩ := h
  have hs : mr 9 t = -1 ∧ ¬ 0 ≤ mr 9 t ∨ ¬ mr 9 t = -1 ∧ 0 ≤ mr 9 t ∧ Bd 0 4 (mr 9 t) := by
    rcases s2 with e | ⟨v, v0, v4, e⟩
    · exact Or.inl ⟨e, by rw [e]; decide⟩
    · refine Or.inr ⟨?_, by rw [e]; exact nI_pos' (by omega), ⟨v, v0, v4, e⟩⟩
      rw [e]
      intro q
      have := nI_pos (n := v) (by omega)
      rw [q] at this
      exact this (by decide)
  unfold fX3_refusal fX12_lacks
  rw [gx_n (by omega) (by decide), ix_n (by omega), s1]
  rcases hs with ⟨e, e'⟩ | ⟨e, e', eb⟩
  · refine ⟨-11, Or.inl rfl, fun q => absurd q (by decide), by rw [if_pos e], fun m hm => ?_⟩
    rw [gx_n (by omega) (by decide), hm, if_neg e']
  · by_cases c : mr 9 t = a
    · refine ⟨0, Or.inr (Or.inr rfl), fun _ => ⟨c, eb⟩, by rw [if_neg e, if_pos c], fun m hm => ?_⟩
      rw [gx_n (by omega) (by decide), hm, if_pos e', if_pos c]
    · refine ⟨-13, Or.inr (Or.inl rfl), fun q => absurd q (by decide), by rw [if_neg e, if_neg c], fun m hm => ?_⟩
      rw [gx_n (by omega) (by decide), hm, if_pos e', if_neg c]
theorem e_40 {a : Nat} {x y : Int32} {p : Nat} (h : x + y = nI p) : (40 : Int32) * nI a + x + y = nI (40 * a + p) := by
  rw [Int32.add_assoc, h, show (40 : Int32) = nI 40 from rfl, pk_mul, nI_add]
theorem isSheet_c (x : Int32) (m : Mm) : fX11_isSheet x m = some (b2 (decide (nI 0 ≤ x) && decide (x ≤ nI 3)), m) := by
  unfold fX11_isSheet
  rcases rngC x (lo := 0) (hi := 3) (by decide) (by decide) with e | ⟨⟨v, -, v3, rfl⟩, e⟩
  · rw [e]
    rcases rngF e with k | ⟨k, k2⟩
    · rw [if_pos (show x < 0 from k)]; rfl
    · rw [if_neg (show ¬ x < 0 from k), if_pos (show 4 ≤ x from gt_ge (by decide) k2)]; rfl
  · rw [e, if_neg (nI_pos (by omega)), if_neg (show ¬ (4 : Int32) ≤ nI v from nI_ge (b := 4) (by omega) (by decide))]; rfl
theorem isSheet_r (x : Int32) (m : Mm) : fX12_isSheet x m = some (b2 (decide (nI 0 ≤ x) && decide (x ≤ nI 3)), m) := by
  unfold fX12_isSheet
  have d : fX12_isIn (Int32.toInt64 x) 0 3 m = some (b2 (decide (nI 0 ≤ x) && decide (x ≤ nI 3)), m) := isIn_r m rfl rfl rfl
  rw [d, bd_s]
  cases (decide (nI 0 ≤ x) && decide (x ≤ nI 3))
  · rw [show b2 false = 0 from rfl, gb_0]
  · rw [show b2 true = 1 from rfl, gb_1]
theorem isShelf_c (x : Int32) (m : Mm) : fX11_isShelf x m = some (b2 (decide (nI 0 ≤ x) && decide (x ≤ nI 3)), m) := isSheet_c x m
theorem isShelf_r (x : Int32) (m : Mm) : fX12_isShelf x m = some (b2 (decide (nI 0 ≤ x) && decide (x ≤ nI 3)), m) := isSheet_r x m
/-- a sheet's acts, all of them done -/
theorem goAll_b {t N : Nat} {x : Int32} (ht : t < 4) (hN : N ≤ 20) : ∀ (d k q : Nat) (mc mr : Mm) (w : Int32), k + d = N → d < q → RR mc mr →
    ∃ r mc' mr', fX11_goAll_44 q (nI t) x (nI N) w (nI k) mc = some (r, mc') ∧ fX12_goAll_43 q (nI t) x (nI N) w (nI k) mr = some (r, mr') ∧ RR mc' mr' := by
  intro d
  induction d with
  | zero =>
    intro k q mc mr w hd hq hR
    obtain ⟨q, rfl⟩ : ∃ q', q = q' + 1 := ⟨q - 1, by omega⟩
    rw [fX11_goAll_44, fX12_goAll_43, if_pos (nI_le (by omega) (by omega)), if_pos (nI_le (by omega) (by omega))]
    exact ⟨_, mc, mr, rfl, rfl, hR⟩
  | succ d ih =>
    intro k q mc mr w hd hq hR
    obtain ⟨q, rfl⟩ : ∃ q', q = q' + 1 := ⟨q - 1, by omega⟩
    obtain ⟨n, hn⟩ := hR.2.1.1
    have hs := hR.2.2.2.2.2.1 t ht
    obtain ⟨z, z40, hz, h1, h2⟩ := item_b hs ht x (k := k) (by omega)
    have gt : ∀ {α : Type} (k : Option α), gx (nI t) 4 k = k := fun k => gx_n ht (by decide)
    rw [fX11_goAll_44, fX12_goAll_43, if_neg (nI_ge (by omega) (by omega)), if_neg (nI_ge (by omega) (by omega)), h1, bd_s, gt, gt, ix_n (show t < 2 ^ 31 by omega), h2, bd_s]
    rcases isS_cases (x + nI k) (n := z) (by omega) with e | ⟨e, p, hp, ep⟩
    · rw [e, if_pos b2f, if_pos b2f]; exact ⟨_, mc, mr, rfl, rfl, hR⟩
    rw [e, if_neg b2t, if_neg b2t, ep, gx_n (by omega) (by decide), ix_n (by omega), lt_v, e_40 ep, gx_n (by omega) (by decide), ix_n (by omega), hs.2.2.2.2 p (by omega), lt_v, isAct_c hR.1.1 hn.1, isAct_r hn.1, bd_s, bd_s]
    rcases isA_cases (mr 11 (40 * t + p)) hn.2.1 with e | ⟨e, a, ha, hx⟩
    · rw [e, if_pos b2f, if_pos b2f, fX12_goAll_117, lt_v, lt_v, lt_v, p1, show w + 0 = w from Int32.add_zero w]
      exact ih (k + 1) q mc mr w (by omega) (by omega) hR
    rw [e, if_neg b2t, if_neg b2t, isOver_c hR.1.1, isOver_r, bd_s, bd_s]
    by_cases c1 : mr 1 1 < mr 1 2
    · obtain ⟨m1, m2, q1, q2, r, -⟩ := hR.goBy hn ha c1
      rw [decide_eq_true c1, if_pos (show b2 (!true) = 0 from rfl), if_pos (show b2 (!true) = 0 from rfl), hx, q1, q2, bd_s, bd_s, lt_v, lt_v, lt_v, lt_v, p1]
      exact ih (k + 1) q m1 m2 _ (by omega) (by omega) r
    · rw [decide_eq_false c1, if_neg (show ¬ b2 (!false) = 0 by decide), if_neg (show ¬ b2 (!false) = 0 by decide), fX12_goAll_117, lt_v, lt_v, lt_v, p1, show w + 0 = w from Int32.add_zero w]
      exact ih (k + 1) q mc mr w (by omega) (by omega) hR
theorem op_goAll (a1 a2 a3 : Int32) : Op (fX11_goAll a1 a2 a3) (fX12_goAll a1 a2 a3) := by
  intro mc mr hR
  unfold fX11_goAll fX12_goAll
  rw [isSheet_c, isSheet_r, bd_s, bd_s]
  rcases rngC a1 (lo := 0) (hi := 3) (by decide) (by decide) with e | ⟨⟨t, -, t3, rfl⟩, e⟩
  · rw [e, if_pos b2f, if_pos b2f]; exact ⟨-1, mc, mr, rfl, rfl, hR⟩
  have d3 : fX12_isIn (Int32.toInt64 a3) 0 20 mr = some (b2 (decide (nI 0 ≤ a3) && decide (a3 ≤ nI 20)), mr) := isIn_r mr rfl rfl rfl
  rw [e, if_neg b2t, if_neg b2t, d3, bd_s]
  rcases rngC a3 (lo := 0) (hi := 20) (by decide) (by decide) with e | ⟨⟨N, -, N20, rfl⟩, e⟩
  · rw [e, if_pos b2f]
    rcases rngF e with k | ⟨k, k2⟩
    · rw [if_pos (show a3 < 0 from k)]; exact ⟨-1, mc, mr, rfl, rfl, hR⟩
    · rw [if_neg (show ¬ a3 < 0 from k), if_neg (show ¬ a3 ≤ 20 from Int32.not_le.mpr k2)]; exact ⟨-1, mc, mr, rfl, rfl, hR⟩
  obtain ⟨r, hr, -, h1, h2⟩ := refuse_b (hR.2.2.2.2.2.1 t (by omega)) (by omega) 0
  rw [e, if_neg b2t, if_neg (nI_pos (by omega)), if_pos (show nI N ≤ 20 from nI_le (b := 20) N20 (by decide)), h1, h2 mr rfl, bd_s, bd_s]
  rcases hr with rfl | rfl | rfl
  · rw [if_neg (by decide), if_neg (by decide), h2 mr rfl, bd_s]; exact ⟨_, mc, mr, rfl, rfl, hR⟩
  · rw [if_neg (by decide), if_neg (by decide), h2 mr rfl, bd_s]; exact ⟨_, mc, mr, rfl, rfl, hR⟩
  · rw [if_pos (by decide), if_pos rfl]
    exact goAll_b (by omega) N20 N 0 FL mc mr 0 (by omega) (by unfold FL; omega) hR
