theorem goS_stat {s : Nat → Int32} {n a : Nat} (h : GymOk s n) (ha : a ≤ n) : StatEq s (goS s a) := by
  refine ⟨goS_out h ha (by omega) (by omega) (by omega), goS_out h ha (by omega) (by omega) (by omega), fun o ho w hw => ?_, fun k hk => goS_out h ha (by omega) (by omega) (by omega)⟩
  unfold goS tickS
  rw [pk_un (by omega), pk_un (by omega), coolS_out (by omega)]
  unfold midS
  split
  · next hc =>
    have h1 : 1 ≤ a := by unfold actsS at hc; simp at hc; exact hc.1
    obtain ⟨h0, h6, -, hS1, -⟩ := h
    have hK := hS1 (a - 1) (by omega)
    obtain ⟨u, -, u2, hu⟩ := hK.2.2.2.1
    have emu : muS s (a - 1) = u := by unfold muS; rw [hu, ix_n (by omega)]
    obtain ⟨ma, -, ma5, hma⟩ := hK.2.1
    have ema : maS s (a - 1) = ma := by unfold maS; rw [hma, ix_n (by omega)]
    unfold doS
    rw [emu, ema, pk_un (by omega), pk_un (by omega), pk_un (by omega)]
  · rfl
theorem StatEq.tr {a b c : Nat → Int32} (h1 : StatEq a b) (h2 : StatEq b c) : StatEq a c :=
  ⟨h2.1.trans h1.1, h2.2.1.trans h1.2.1, fun o ho w hw => (h2.2.2.1 o ho w hw).trans (h1.2.2.1 o ho w hw), fun k hk => (h2.2.2.2 k hk).trans (h1.2.2.2 k hk)⟩
theorem StatEq.rf {a : Nat → Int32} : StatEq a a := ⟨rfl, rfl, fun _ _ _ _ => rfl, fun _ _ => rfl⟩
theorem StatEq.put4 {a : Nat → Int32} {v : Int32} : StatEq a (upd a 4 v) := ⟨pk_un (by decide), pk_un (by decide), fun o ho w hw => pk_un (by omega), fun k hk => pk_un (by omega)⟩
/-! a lot, and so many of them -/
def drawS (s : Nat → Int32) : Nat → Int32 := upd s 4 (nextS (s 4))
def lotA (s : Nat → Int32) : Nat := lotN (nextS (s 4)) (ix (s 0))
def lotG (s : Nat → Int32) : Nat → Int32 := goS (drawS s) (lotA s)
def lotV (s : Nat → Int32) : Int32 := worthS (drawS s) (lotA s)
def lotW : Nat → (Nat → Int32) → Int32 → Int32
  | 0, _, w => w
  | d + 1, s, w => if s 1 < s 2 then lotW d (lotG s) (w + lotV s) else w
def lotE : Nat → (Nat → Int32) → (Nat → Int32)
  | 0, s => s
  | d + 1, s => if s 1 < s 2 then lotE d (lotG s) else s
theorem lotA_le {s : Nat → Int32} {n : Nat} (h : GymOk s n) : lotA s ≤ n := by
  unfold lotA
  rw [h.1, ix_n (by have := h.2.1; omega)]
  exact lotN_le
theorem lotG_stat {s : Nat → Int32} {n : Nat} (h : GymOk s n) : StatEq s (lotG s) := StatEq.put4.tr (goS_stat (h.other (by omega)) (lotA_le h))
theorem lotG_1 {s : Nat → Int32} {n : Nat} (h : GymOk s n) : lotG s 1 = s 1 + 1 := by
  have h4 : GymOk (drawS s) n := h.other (by omega)
  unfold lotG
  rw [goS_1 h4 (lotA_le h)]
  unfold drawS
  rw [pk_un (by decide)]
theorem lot_c {i n : Nat} {m : Mm} {s : Nat → Int32} (h : Tr i m s n) (hi : i < 8) (ho : s 1 < s 2) :
    ∃ m1 m', fX1_drawAct i m = some (nI (lotA s), m1) ∧ fX1_goBy i (nI (lotA s)) m1 = some (lotV s, m') ∧ Tr i m' (lotG s) n ∧ Fr (gymP i) m m' := by
  have hn := h.2.1
  have z : ∀ {α : Type} (k : Option α), gz (nI n + 1) k = k := fun k => by unfold gz; rw [p1, if_neg (nI_ne0 (by omega) (by have := hn.2.1; omega))]
  have t1 : Tr i (up m (gp i 0) 9 (nextS (s 4))) (drawS s) n := by
    obtain ⟨h1, h2, h3, h4⟩ := h
    exact ⟨h1.up_fld (k := 9) (by omega), h2.other (by omega), h3.of_eq (fun k hk => pk_un (by omega)), (h4.fr (by unfold rI; split <;> omega) (Fr.rf.up (gymP_in (by decide)))).row_eq (fun k hk => pk_un (by omega))⟩
  obtain ⟨m', q, t, f, -⟩ := t1.go hi (lotA_le (s := s) hn) (by unfold drawS; rw [pk_un (by decide), pk_un (by decide)]; exact ho)
  refine ⟨_, m', ?_, q, t, (Fr.rf.up (gymP_in (by decide))).tr f⟩
  unfold fX1_drawAct
  rw [h.1.1.2.2.2.2]
  show lt (up m (gp i 0) 9 (nextS (s 4))) _ = _
  rw [lt_v, up_at, up_ne (Or.inr (by decide)), h.1.1.1, hn.1, z, lot_n _ hn.2.1]
  unfold lotA
  rw [hn.1, ix_n (by have := hn.2.1; omega)]
theorem Pl.put4 {m : Mm} {s0 : Nat → Int32} {n : Nat} {v : Int32} (h : Pl m s0 n) : Pl (up m 1 4 v) s0 n := by
  obtain ⟨h2, h3, ⟨mc, h4⟩, h5, h6⟩ := h
  refine ⟨by rw [up_own]; exact h2.other (by omega), by rw [up_own]; exact h3.of_eq (fun k hk => pk_un (by omega)), ⟨mc, ?_⟩, fun k hk => by rw [up_row (by decide)]; exact h5 k hk, fun k hk => by rw [up_ne (Or.inr (by omega))]; exact h6 k hk⟩
  rw [up_own, pk_un (by omega)]
  exact h4.row_eq (fun k hk => pk_un (by omega))
theorem Pl.lot {m : Mm} {s0 : Nat → Int32} {n : Nat} (h : Pl m s0 n) (ho : m 1 1 < m 1 2) :
    ∃ m', fX12_goesByLot m = some (lotV (m 1), m') ∧ m' 1 = lotG (m 1) ∧ Pl m' s0 n ∧ (∀ q k, ¬ (q = 1 ∨ (q = 0 ∧ k = 13)) → m' q k = m q k) := by
  have hn := h.1
  have z : ∀ {α : Type} (k : Option α), gz (nI n + 1) k = k := fun k => by unfold gz; rw [p1, if_neg (nI_ne0 (by omega) (by have := hn.2.1; omega))]
  obtain ⟨m', q, e, p, -, f⟩ := (h.put4 (v := nextS (m 1 4))).go (lotA_le hn) (by rw [up_own, pk_un (by decide), pk_un (by decide)]; exact ho)
  rw [up_own] at q e
  refine ⟨m', ?_, e, p, fun q k hq => by rw [f q k hq, up_ne (by omega)]⟩
  unfold fX12_goesByLot
  show lt (up m 1 4 (nextS (m 1 4))) _ = _
  have ea : nI (lotN (nextS (m 1 4)) n) = nI (lotA (m 1)) := by
    unfold lotA
    rw [hn.1, ix_n (by have := hn.2.1; omega)]
  rw [lt_v, up_at, up_ne (Or.inr (by decide)), hn.1, z, lot_n _ hn.2.1, ea, q, bd_s]
  rfl
theorem lots_c {i n : Nat} (hi : i < 8) : ∀ (d k q : Nat) (m : Mm) (s : Nat → Int32) (w : Int32), k + d = 16 → d < q → Tr i m s n → ∃ m', fX1_goByLot_4 i q w (nI k) m = some (lotW d s w, m') ∧ Tr i m' (lotE d s) n ∧ StatEq s (lotE d s) ∧ Fr (gymP i) m m' := by
  intro d
  induction d with
  | zero =>
    intro k q m s w hd hq hT
    obtain ⟨q, rfl⟩ : ∃ q', q = q' + 1 := ⟨q - 1, by omega⟩
    rw [fX1_goByLot_4, if_pos (show (16 : Int32) ≤ nI k from nI_le (a := 16) (by omega) (by omega))]
    exact ⟨m, rfl, hT, StatEq.rf, Fr.rf⟩
  | succ d ih =>
    intro k q m s w hd hq hT
    obtain ⟨q, rfl⟩ : ∃ q', q = q' + 1 := ⟨q - 1, by omega⟩
    rw [fX1_goByLot_4, if_neg (show ¬ (16 : Int32) ≤ nI k from nI_ge (b := 16) (by omega) (by omega)), isOver_c hT.1, bd_s, lotW, lotE]
    by_cases c : s 1 < s 2
    · obtain ⟨m1, m2, q1, q2, t, f⟩ := lot_c hT hi c
      rw [decide_eq_true c, if_pos (show b2 (!true) = 0 from rfl), q1, bd_s, q2, bd_s, lt_v, lt_v, p1, if_pos c, if_pos c]
      obtain ⟨m3, e3, t3, s3, f3⟩ := ih (k + 1) q m2 _ (w + lotV s) (by omega) (by omega) t
      exact ⟨m3, e3, t3, (lotG_stat hT.2.1).tr s3, f.tr f3⟩
    · rw [decide_eq_false c, if_neg (show ¬ b2 (!false) = 0 by decide), if_neg c, if_neg c]
      exact ⟨m, rfl, hT, StatEq.rf, Fr.rf⟩
theorem lots_r {n en : Nat} {s0 : Nat → Int32} {K : Int32 → Int32 → Int32 → Int32 → Mm → Option (Int32 × Mm)} {x1 x2 x3 x4 : Int32} (he : en ≤ 16) :
    ∀ (d t q : Nat) (m : Mm) (w : Int32), en ≤ t + d → d < q → m 1 1 = nI t → m 1 2 = nI en → t ≤ en → Pl m s0 n →
    ∃ m', fX12_times_80 K q x1 x2 x3 x4 w m = (if lotW d (m 1) w < x2 then K x1 x2 x3 (x4 + 1) m' else K x1 x2 (x3 + 1) (x4 + 1) m') ∧ m' 1 = lotE d (m 1) ∧ Pl m' s0 n ∧ (∀ q k, ¬ (q = 1 ∨ (q = 0 ∧ k = 13)) → m' q k = m q k) := by
  intro d
  induction d with
  | zero =>
    intro t q m w hd hq h1 h2 hte hP
    obtain ⟨q, rfl⟩ : ∃ q', q = q' + 1 := ⟨q - 1, by omega⟩
    rw [fX12_times_80, isOver_r, bd_s, h1, h2, decide_eq_false (nI_nlt (by omega) (by omega)), if_neg (show ¬ b2 (!false) = 0 by decide)]
    refine ⟨m, ?_, rfl, hP, fun _ _ _ => rfl⟩
    rw [lt_v, lt_v, lt_v, lt_v, show x3 + 0 = x3 from Int32.add_zero x3]
    rfl
  | succ d ih =>
    intro t q m w hd hq h1 h2 hte hP
    obtain ⟨q, rfl⟩ : ∃ q', q = q' + 1 := ⟨q - 1, by omega⟩
    rw [fX12_times_80, isOver_r, bd_s, lotW, lotE]
    by_cases c : m 1 1 < m 1 2
    · obtain ⟨m1, q1, e1, p, f⟩ := hP.lot c
      rw [decide_eq_true c, if_pos (show b2 (!true) = 0 from rfl), q1, bd_s, lt_v, if_pos c, if_pos c]
      have ht : t < en := by rw [h1, h2] at c; exact (nI_ltI (by omega) (by omega)).mp c
      have l1 : lotG (m 1) 1 = nI (t + 1) := by rw [lotG_1 hP.1, h1, p1]
      have l2 : lotG (m 1) 2 = nI en := by rw [(lotG_stat hP.1).2.1, h2]
      obtain ⟨m2, e2, e3, p2, f2⟩ := ih (t + 1) q m1 (w + lotV (m 1)) (by omega) (by omega) (by rw [e1]; exact l1) (by rw [e1]; exact l2) (by omega) p
      rw [e1] at e2 e3
      exact ⟨m2, e2, e3, p2, fun q k hq => (f2 q k hq).trans (f q k hq)⟩
    · rw [decide_eq_false c, if_neg (show ¬ b2 (!false) = 0 by decide), if_neg c, if_neg c, lt_v, lt_v, lt_v, lt_v, show x3 + 0 = x3 from Int32.add_zero x3]
      exact ⟨m, rfl, rfl, hP, fun _ _ _ => rfl⟩
def timesF (s0 : Nat → Int32) (v : Int32) : Nat → Int32 → Int32 → Int32
  | 0, _, r => r
  | d + 1, c, r => timesF s0 v d (lotE 16 (upd s0 4 c) 4) (if lotW 16 (upd s0 4 c) 0 < v then r else r + 1)
theorem times_c {n N : Nat} {s0 : Nat → Int32} {v : Int32} (hN : N ≤ 40) (hn : GymOk s0 n) (hR : RulesOk s0) : ∀ (d k q : Nat) (m : Mm) (s : Nat → Int32) (r : Int32), k + d = N → d < q → GymIs 0 m s0 → RulesIs 0 m s0 → GymIs 2 m s → StatEq s0 s →
    ∃ m', fX11_times_40 q (nI N) v r (nI k) m = some (timesF s0 v d (s 4) r, m') ∧ Fr (gymP 2) m m' := by
  intro d
  induction d with
  | zero =>
    intro k q m s r hd hq hG hI h2 hS
    obtain ⟨q, rfl⟩ : ∃ q', q = q' + 1 := ⟨q - 1, by omega⟩
    rw [fX11_times_40, if_pos (nI_le (by omega) (by omega))]
    exact ⟨m, rfl, Fr.rf⟩
  | succ d ih =>
    intro k q m s r hd hq hG hI h2 hS
    obtain ⟨q, rfl⟩ : ∃ q', q = q' + 1 := ⟨q - 1, by omega⟩
    obtain ⟨m1, q1, g1, f1⟩ := follow_c (i := 2) (j := 0) (by omega) hG h2 hS
    have T1 : Tr 2 m1 (upd s0 4 (s 4)) n := ⟨g1, hn.other (by omega), hR.of_eq (fun k hk => pk_un (by omega)), (hI.fr (by decide) f1).row_eq (fun k hk => pk_un (by omega))⟩
    obtain ⟨m2, q2, t2, s2, f2⟩ := lots_c (i := 2) (by decide) 16 0 FL m1 _ 0 (by omega) (by decide) T1
    have F : Fr (gymP 2) m m2 := f1.tr f2
    have ne0 : ∀ k, k < 13 → ¬ gymP 2 (gp 0 k) := fun k hk => by unfold gymP gp; omega
    have q2' : fX1_goByLot 2 m1 = some (lotW 16 (upd s0 4 (s 4)) 0, m2) := q2
    rw [fX11_times_40, if_neg (nI_ge (by omega) (by omega)), q1, bd_s, q2', bd_s, timesF]
    have go := fun r => ih (k + 1) q m2 _ r (by omega) (by omega) (hG.fr F (fun k hk _ _ => ne0 k hk)) (hI.fr (by decide) F) t2.1 (StatEq.put4.tr s2)
    by_cases c : lotW 16 (upd s0 4 (s 4)) 0 < v
    · rw [if_pos c, if_pos c, lt_v, p1]
      obtain ⟨m3, q3, f3⟩ := go r
      exact ⟨m3, q3, F.tr f3⟩
    · rw [if_neg c, if_neg c, lt_v, lt_v, p1]
      obtain ⟨m3, q3, f3⟩ := go (r + 1)
      exact ⟨m3, q3, F.tr f3⟩
theorem times_r {n N : Nat} {s0 : Nat → Int32} {v : Int32} (hN : N ≤ 40) (hn : GymOk s0 n) (hR : RulesOk s0) {mc : Mm} (hS : StepsIs 0 mc s0 (ix (s0 7))) : ∀ (d k q : Nat) (m : Mm) (r : Int32), k + d = N → d < q → Pl m s0 n → (k = 0 → m 1 4 = s0 4) →
    ∃ m', fX12_times_36 q (nI N) v r (nI k) m = some (timesF s0 v d (m 1 4) r, m') ∧ m' 1 = s0 ∧ (∀ q k, ¬ (q = 1 ∨ (q = 0 ∧ k = 13)) → m' q k = m q k) := by
  have hn0 := hn
  obtain ⟨h0, h6, ⟨t, en, te, e1, e16, ht, he⟩, -⟩ := hn
  intro d
  induction d with
  | zero =>
    intro k q m r hd hq hP hk
    obtain ⟨q, rfl⟩ : ∃ q', q = q' + 1 := ⟨q - 1, by omega⟩
    rw [fX12_times_36, if_pos (nI_le (by omega) (by omega)), hP.back, bd_s]
    exact ⟨_, rfl, upA_same, fun q k hq => congrFun (upA_ne (by omega)) k⟩
  | succ d ih =>
    intro k q m r hd hq hP hk
    obtain ⟨q, rfl⟩ : ∃ q', q = q' + 1 := ⟨q - 1, by omega⟩
    have P1 : Pl (upA m 1 (upd s0 4 (m 1 4))) s0 n := by
      refine ⟨by rw [upA_same]; exact hn0.other (by omega), by rw [upA_same]; exact hR.of_eq (fun k hk => pk_un (by omega)), ⟨mc, ?_⟩, fun k hk => by rw [upA_ne (by decide)]; exact hP.2.2.2.1 k hk, fun k hk => by rw [upA_same]; exact pk_un (by omega)⟩
      rw [upA_same, pk_un (by decide)]
      exact hS.row_eq (fun k hk => pk_un (by omega))
    have F1 : ∀ q k, ¬ (q = 1 ∨ (q = 0 ∧ k = 13)) → (upA m 1 (upd s0 4 (m 1 4))) q k = m q k := fun q k hq => by rw [upA_ne (by omega)]
    have eu : ∀ x, up (upA m 1 s0) 1 4 x = upA m 1 (upd s0 4 x) := fun x => up_up1
    obtain ⟨m2, q2, e2, p2, f2⟩ := lots_r (n := n) (en := en) (s0 := s0) (K := fun x1 x2 x3 x4 m => fX12_times_36 q x1 x2 x3 x4 m) (x1 := nI N) (x2 := v) (x3 := r) (x4 := nI k) e16 16 t FL (upA m 1 (upd s0 4 (m 1 4))) 0 (by omega) (by decide)
      (by rw [upA_same, pk_un (by decide)]; exact ht) (by rw [upA_same, pk_un (by decide)]; exact he) te P1
    rw [upA_same] at q2 e2
    have go : fX12_times_80 (fun x1 x2 x3 x4 m => fX12_times_36 q x1 x2 x3 x4 m) FL (nI N) v r (nI k) 0 (upA m 1 (upd s0 4 (m 1 4))) = _ := q2
    rw [fX12_times_36, if_neg (nI_ge (by omega) (by omega)), lt_v, hP.back, bd_s]
    have both : (if nI k = 0 then lt (up (upA m 1 s0) 1 4 (upA m 1 s0 1 4)) fun m_42 => fX12_times_80 (fun x1 x2 x3 x4 m => fX12_times_36 q x1 x2 x3 x4 m) FL (nI N) v r (nI k) 0 m_42 else lt (up (upA m 1 s0) 1 4 (m 1 4)) fun m_22 => fX12_times_80 (fun x1 x2 x3 x4 m => fX12_times_36 q x1 x2 x3 x4 m) FL (nI N) v r (nI k) 0 m_22) = fX12_times_80 (fun x1 x2 x3 x4 m => fX12_times_36 q x1 x2 x3 x4 m) FL (nI N) v r (nI k) 0 (upA m 1 (upd s0 4 (m 1 4))) := by
      by_cases k0 : nI k = 0
      · have kk : k = 0 := by
          rcases Nat.eq_zero_or_pos k with h | h
          · exact h
          · exact absurd k0 (nI_ne0 h (by omega))
        rw [if_pos k0, lt_v, upA_same, eu, ← hk kk]
      · rw [if_neg k0, lt_v, eu]
    rw [both, go, timesF]
    have step := fun r => ih (k + 1) q m2 r (by omega) (by omega) p2 (fun h => by omega)
    rw [e2] at step
    by_cases c : lotW 16 (upd s0 4 (m 1 4)) 0 < v
    · rw [if_pos c, if_pos c, p1]
      obtain ⟨m3, q3, e3, f3⟩ := step r
      exact ⟨m3, q3, e3, fun q k hq => (f3 q k hq).trans ((f2 q k hq).trans (F1 q k hq))⟩
    · rw [if_neg c, if_neg c, p1]
      obtain ⟨m3, q3, e3, f3⟩ := step (r + 1)
      exact ⟨m3, q3, e3, fun q k hq => (f3 q k hq).trans ((f2 q k hq).trans (F1 q k hq))⟩
theorem op_times (a1 a2 : Int32) : Op (fX11_times a1 a2) (fX12_times a1 a2) := by
  intro mc mr hR
  obtain ⟨n, hn⟩ := hR.2.1.1
  unfold fX11_times fX12_times
  have d1 : fX12_isIn (Int32.toInt64 a1) 1 40 mr = some (b2 (decide (nI 1 ≤ a1) && decide (a1 ≤ nI 40)), mr) := isIn_r mr rfl rfl rfl
  have d2 : fX12_isIn (Int32.toInt64 a2) 0 999 mr = some (b2 (decide (nI 0 ≤ a2) && decide (a2 ≤ nI 999)), mr) := isIn_r mr rfl rfl rfl
  rw [d1, bd_s]
  rcases rngC a1 (lo := 1) (hi := 40) (by decide) (by decide) with e | ⟨⟨N, N1, N40, rfl⟩, e⟩
  · rw [e, if_pos b2f]
    rcases rngF e with k | ⟨k, k2⟩
    · rw [if_pos (show a1 < 1 from k)]; exact ⟨-1, mc, mr, rfl, rfl, hR⟩
    · rw [if_neg (show ¬ a1 < 1 from k), if_pos (show 40 < a1 from k2)]; exact ⟨-1, mc, mr, rfl, rfl, hR⟩
  rw [e, if_neg b2t, if_neg (show ¬ nI N < 1 from nI_nlt (b := 1) (by omega) (by omega)), if_neg (show ¬ (40 : Int32) < nI N from nI_nlt (a := 40) (by omega) (by decide)), d2, bd_s]
  rcases rngC a2 (lo := 0) (hi := 999) (by decide) (by decide) with e | ⟨⟨v, v0, v9, rfl⟩, e⟩
  · rw [e, if_pos b2f]
    rcases rngF e with k | ⟨k, k2⟩
    · rw [if_pos (show a2 < 0 from k)]; exact ⟨-1, mc, mr, rfl, rfl, hR⟩
    · rw [if_neg (show ¬ a2 < 0 from k), if_neg (show ¬ a2 ≤ 999 from Int32.not_le.mpr k2)]; exact ⟨-1, mc, mr, rfl, rfl, hR⟩
  rw [e, if_neg b2t, if_neg (nI_pos (by omega)), if_pos (show nI v ≤ 999 from nI_le (b := 999) v9 (by decide))]
  obtain ⟨m1, q1, t1, f1⟩ := hR.tr hn (i := 2) (by decide)
  have ne0 : ∀ k, k < 13 → ¬ gymP 2 (gp 0 k) := fun k hk => by unfold gymP gp; omega
  obtain ⟨m2, q2, f2⟩ := times_c (v := nI v) N40 hn hR.2.1.2.1 N 0 FL m1 (mr 1) 0 (by omega) (by unfold FL; omega) (hR.1.1.fr f1 (fun k hk _ _ => ne0 k hk)) (hR.1.2.1.fr (by decide) f1) t1.1 StatEq.rf
  obtain ⟨m3, q3, p3, e3, c3⟩ := hR.aside hn
  obtain ⟨m4, q4, e4, f4⟩ := times_r (v := nI v) N40 hn hR.2.1.2.1 hR.steps N 0 FL m3 0 (by omega) (by unfold FL; omega) p3 (fun _ => by rw [e3])
  rw [e3] at q4
  have q2' : fX11_times_40 FL (nI N) (nI v) 0 0 m1 = _ := q2
  have q4' : fX12_times_36 FL (nI N) (nI v) 0 0 m3 = _ := q4
  rw [q1, bd_s, q2', q3, bd_s, q4']
  refine ⟨_, m2, m4, rfl, rfl, hR.of_eq (ce_trial (by decide) (f1.tr f2)) (fun q k hq => ?_)⟩
  unfold scrR at hq
  by_cases h1 : q = 1
  · subst h1; rw [e4]
  · rw [f4 q k (by omega), c3 q k (by omega)]
