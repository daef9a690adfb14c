def scrT (q k : Nat) : Prop := q = 3 ∨ (q = 0 ∧ k = 13)
theorem scrT_R {q k : Nat} (h : scrT q k) : scrR q k := by unfold scrT at h; unfold scrR; omega
/-- a row on trial: the class has it in gym i, the reference plays on its own row -/
def Tr (i : Nat) (m : Mm) (s : Nat → Int32) (n : Nat) : Prop := GymIs i m s ∧ GymOk s n ∧ RulesOk s ∧ RulesIs (rI i) m s
theorem Tr.go {i n a : Nat} {m : Mm} {s : Nat → Int32} (h : Tr i m s n) (hi : i < 8) (ha : a ≤ n) (ho : s 1 < s 2) :
    ∃ m', fX1_goBy i (nI a) m = some (worthS s a, m') ∧ Tr i m' (goS s a) n ∧ Fr (gymP i) m m' ∧ m' (gp i 0) 10 = doneC s a := by
  obtain ⟨h1, h2, h3, h4⟩ := h
  obtain ⟨m', q, g, f, d⟩ := goBy_c h1 h2 ha h3 hi h4
  have e : ∀ k, k = 5 ∨ k = 7 ∨ 53 ≤ k → goS s a k = s k := fun k hk => goS_out h2 ha (by omega) (by omega) (by omega)
  exact ⟨m', q, ⟨g, h2.go ha ho, h3.of_eq e, (h4.row_eq e).fr (by unfold rI; split <;> omega) f⟩, f, d⟩
/-- the reference plays on: its row is s now; aside and beyond lies s0 -/
def Pl (m : Mm) (s0 : Nat → Int32) (n : Nat) : Prop := GymOk (m 1) n ∧ RulesOk (m 1) ∧ (∃ mc, StepsIs 0 mc (m 1) (ix (m 1 7))) ∧ (∀ k, k < 47 → m 3 k = s0 k) ∧ (∀ k, 47 ≤ k → m 1 k = s0 k)
theorem Pl.go {m : Mm} {s0 : Nat → Int32} {n a : Nat} (h : Pl m s0 n) (ha : a ≤ n) (ho : m 1 1 < m 1 2) :
    ∃ m', fX12_goesWith (nI a) m = some (worthS (m 1) a, m') ∧ m' 1 = goS (m 1) a ∧ Pl m' s0 n ∧ m' 0 13 = doneR (m 1) a ∧ (∀ q k, ¬ (q = 1 ∨ (q = 0 ∧ k = 13)) → m' q k = m q k) := by
  obtain ⟨h2, h3, ⟨mc, h4⟩, h5, h6⟩ := h
  have e : ∀ k, k = 5 ∨ k = 7 ∨ 53 ≤ k → goS (m 1) a k = m 1 k := fun k hk => goS_out h2 ha (by omega) (by omega) (by omega)
  have e1 : (up (upA m 1 (goS (m 1) a)) 0 13 (doneR (m 1) a)) 1 = goS (m 1) a := (up_row (by decide)).trans upA_same
  refine ⟨_, goesWith_r h2 ha h3 h4, e1, ⟨by rw [e1]; exact h2.go ha ho, by rw [e1]; exact h3.of_eq e, ⟨mc, ?_⟩, fun k hk => ?_, fun k hk => ?_⟩, up_at, fun q k hq => ?_⟩
  · rw [e1, e 7 (by omega)]; exact h4.row_eq (fun k hk => e k (by omega))
  · rw [up_row (by decide), upA_ne (by decide)]; exact h5 k hk
  · rw [e1, goS_out h2 ha (by omega) (by omega) (by omega)]; exact h6 k hk
  · rw [up_ne (by omega), upA_ne (by omega)]
theorem Pl.back {m : Mm} {s0 : Nat → Int32} {n : Nat} (h : Pl m s0 n) : fX12_laysBack 0 m = some (0, upA m 1 s0) :=
  back_r (a := 0) (by decide) (fun k hk => by rw [show 47 * 0 + k = k by omega]; exact h.2.2.2.1 k hk) h.2.2.2.2
theorem RR.aside {mc mr : Mm} {n : Nat} (h : RR mc mr) (hn : GymOk (mr 1) n) : ∃ m', fX12_laysAside 0 mr = some (0, m') ∧ Pl m' (mr 1) n ∧ m' 1 = mr 1 ∧ (∀ q k, q ≠ 3 → m' q k = mr q k) := by
  obtain ⟨f, e, f1, f2⟩ := aside_r (a := 0) (by decide) mr
  have e1 : upA mr 3 f 1 = mr 1 := upA_ne (by decide)
  refine ⟨_, e, ⟨by rw [e1]; exact hn, by rw [e1]; exact h.2.1.2.1, ⟨mc, by rw [e1]; exact h.steps⟩, fun k hk => ?_, fun k hk => by rw [e1]⟩, e1, fun q k hq => congrFun (upA_ne hq) k⟩
  rw [upA_same, ← f1 k hk, show 47 * 0 + k = k by omega]
theorem RR.tr {mc mr : Mm} {n i : Nat} (h : RR mc mr) (hn : GymOk (mr 1) n) (hi : 2 ≤ i) : ∃ m', fX1_copy i 0 mc = some (0, m') ∧ Tr i m' (mr 1) n ∧ Fr (gymP i) mc m' := by
  obtain ⟨m', e, g, f⟩ := copy_c (i := i) (j := 0) (by omega) h.1.1
  refine ⟨m', e, ⟨g, hn, h.2.1.2.1, ?_⟩, f⟩
  have : rI i = 0 := by unfold rI; rw [if_neg (by omega)]
  rw [this]
  exact h.1.2.1.fr (by decide) f
/-- only a gym on trial changed -/
theorem ce_trial {m m' : Mm} {i : Nat} (h2 : 2 ≤ i) (f : Fr (gymP i) m m') : Ce scrC m m' := Ce.of_fr f (fun q k z => by unfold gymP gp at z; unfold scrC; omega)
/-! so many minutes of rest -/
def onF : Nat → (Nat → Int32) → Int32 → Int32
  | 0, _, w => w
  | d + 1, s, w => if s 1 < s 2 then onF d (goS s (restS s)) (w + worthS s (restS s)) else w
theorem goRest_c {i n N : Nat} (hi : i < 8) (hN : N ≤ 16) : ∀ (d k q : Nat) (m : Mm) (s : Nat → Int32) (w : Int32), k + d = N → d < q → Tr i m s n → ∃ m', fX1_goRest_4 i q (nI N) w (nI k) m = some (onF d s w, m') ∧ Fr (gymP i) m m' := by
  intro d
  induction d with
  | zero =>
    intro k q m s w hd hq hT
    obtain ⟨q, rfl⟩ : ∃ q', q = q' + 1 := ⟨q - 1, by omega⟩
    rw [fX1_goRest_4, if_pos (nI_le (by omega) (by omega))]
    exact ⟨m, rfl, Fr.rf⟩
  | succ d ih =>
    intro k q m s w hd hq hT
    obtain ⟨q, rfl⟩ : ∃ q', q = q' + 1 := ⟨q - 1, by omega⟩
    rw [fX1_goRest_4, if_neg (nI_ge (by omega) (by omega)), isOver_c hT.1, bd_s, onF]
    by_cases c : s 1 < s 2
    · rw [decide_eq_true c, if_pos (show b2 (!true) = 0 from rfl), restAct_c hT.1 hT.2.1, bd_s, if_pos c]
      obtain ⟨m1, e, t, f, -⟩ := hT.go hi (restS_le hT.2.1) c
      rw [e, bd_s, lt_v, lt_v, p1]
      obtain ⟨m2, e2, f2⟩ := ih (k + 1) q m1 _ (w + worthS s (restS s)) (by omega) (by omega) t
      exact ⟨m2, e2, f.tr f2⟩
    · rw [decide_eq_false c, if_neg (show ¬ b2 (!false) = 0 by decide), if_neg c]
      exact ⟨m, rfl, Fr.rf⟩
theorem onBy_rF {n N : Nat} {s0 : Nat → Int32} (hN : N ≤ 16) : ∀ (d k q : Nat) (m : Mm) (w : Int32), k + d = N → d < q → Pl m s0 n → ∃ m', fX12_onBy_9 q (nI N) w (nI k) m = some (onF d (m 1) w, m') ∧ m' 1 = s0 ∧ (∀ q k, ¬ (q = 1 ∨ (q = 0 ∧ k = 13)) → m' q k = m q k) := by
  intro d
  induction d with
  | zero =>
    intro k q m w hd hq hP
    obtain ⟨q, rfl⟩ : ∃ q', q = q' + 1 := ⟨q - 1, by omega⟩
    rw [fX12_onBy_9, if_pos (nI_le (by omega) (by omega)), fX12_onBy_38, hP.back, bd_s]
    exact ⟨_, rfl, upA_same, fun q k hq => congrFun (upA_ne (by omega)) k⟩
  | succ d ih =>
    intro k q m w hd hq hP
    obtain ⟨q, rfl⟩ : ∃ q', q = q' + 1 := ⟨q - 1, by omega⟩
    rw [fX12_onBy_9, if_neg (nI_ge (by omega) (by omega)), isOver_r, bd_s, onF]
    by_cases c : m 1 1 < m 1 2
    · rw [decide_eq_true c, if_pos (show b2 (!true) = 0 from rfl), restAct_r hP.1, bd_s, if_pos c]
      obtain ⟨m1, e, e1, p, -, f⟩ := hP.go (restS_le hP.1) c
      rw [e, bd_s, lt_v, lt_v, p1]
      obtain ⟨m2, e2, e3, f2⟩ := ih (k + 1) q m1 (w + worthS (m 1) (restS (m 1))) (by omega) (by omega) p
      rw [e1] at e2
      exact ⟨m2, e2, e3, fun q k hq => (f2 q k hq).trans (f q k hq)⟩
    · rw [decide_eq_false c, if_neg (show ¬ b2 (!false) = 0 by decide), if_neg c, fX12_onBy_38, hP.back, bd_s]
      exact ⟨_, rfl, upA_same, fun q k hq => congrFun (upA_ne (by omega)) k⟩
/-- on, of the reference, from any row in order -/
theorem onBy_r {m : Mm} {n N : Nat} (hn : GymOk (m 1) n) (hR : RulesOk (m 1)) {mc : Mm} (hS : StepsIs 0 mc (m 1) (ix (m 1 7))) (hN : N ≤ 16) :
    ∃ m', fX12_onBy (nI N) m = some (onF N (m 1) 0, m') ∧ Ce scrT m m' := by
  obtain ⟨f, e, f1, f2⟩ := aside_r (a := 0) (by decide) m
  have e1 : upA m 3 f 1 = m 1 := upA_ne (by decide)
  have hP : Pl (upA m 3 f) (m 1) n := ⟨by rw [e1]; exact hn, by rw [e1]; exact hR, ⟨mc, by rw [e1]; exact hS⟩, fun k hk => by rw [upA_same, ← f1 k hk, show 47 * 0 + k = k by omega], fun k hk => by rw [e1]⟩
  obtain ⟨m', q, q1, q2⟩ := onBy_rF hN N 0 FL _ 0 (by omega) (by unfold FL; omega) hP
  rw [e1] at q
  refine ⟨m', ?_, fun q k hq => ?_⟩
  · unfold fX12_onBy
    have e0 : fX12_laysAside 0 m = some (0, upA m 3 f) := e
    rw [e0, bd_s]
    exact q
  · unfold scrT at hq
    by_cases h1 : q = 1
    · subst h1; rw [q1]
    · rw [q2 q k (by omega), upA_ne (by omega)]
theorem op_on (a1 : Int32) : Op (fX11_on a1) (fX12_on a1) := by
  intro mc mr hR
  obtain ⟨n, hn⟩ := hR.2.1.1
  unfold fX11_on fX12_on
  have d1 : fX12_isIn (Int32.toInt64 a1) 0 16 mr = some (b2 (decide (nI 0 ≤ a1) && decide (a1 ≤ nI 16)), mr) := isIn_r mr rfl rfl rfl
  rw [d1, bd_s]
  rcases rngC a1 (lo := 0) (hi := 16) (by decide) (by decide) with e | ⟨⟨a, -, a16, rfl⟩, e⟩
  · rw [e, if_pos b2f]
    rcases rngF e with k | ⟨k, k2⟩
    · rw [if_pos (show a1 < 0 from k)]; exact ⟨-1, mc, mr, rfl, rfl, hR⟩
    · rw [if_neg (show ¬ a1 < 0 from k), if_neg (show ¬ a1 ≤ 16 from Int32.not_le.mpr k2)]; exact ⟨-1, mc, mr, rfl, rfl, hR⟩
  rw [e, if_neg b2t, if_neg (nI_pos (by omega)), if_pos (show nI a ≤ 16 from nI_le (b := 16) a16 (by decide))]
  obtain ⟨m1, q1, t1, f1⟩ := hR.tr hn (i := 2) (by decide)
  obtain ⟨m2, q2, f2⟩ := goRest_c (i := 2) (by decide) a16 a 0 FL m1 _ 0 (by omega) (by unfold FL; omega) t1
  obtain ⟨m3, q3, c3⟩ := onBy_r hn hR.2.1.2.1 hR.steps a16
  rw [q1, bd_s, q3, bd_s]
  unfold fX1_goRest
  have q2' : fX1_goRest_4 2 FL (nI a) 0 0 m1 = some (onF a (mr 1) 0, m2) := q2
  rw [q2', bd_s]
  exact ⟨_, m2, m3, rfl, rfl, hR.of_eq (ce_trial (by decide) (f1.tr f2)) (c3.mono fun q k z => scrT_R z)⟩
/-! when a set is done -/
def whenF (o : Nat) : Nat → (Nat → Int32) → Int32
  | 0, _ => -3
  | d + 1, s => if actsS s (restS s) = true ∧ restS s - 1 = o then s 1 else whenF o d (goS s (restS s))
theorem done_c {s : Nat → Int32} {a o n : Nat} (ha : a ≤ n) (hn : n ≤ 6) (ho : o < 6) : (doneC s a = nI o) = (actsS s a = true ∧ a - 1 = o) := by
  unfold doneC
  cases h : actsS s a
  · rw [if_neg (by decide)]
    exact propext ⟨fun q => by have := nI_pos (n := o) (by omega); rw [← q] at this; exact absurd (by decide) this, fun q => absurd q.1 (by decide)⟩
  · rw [if_pos rfl]
    exact propext ⟨fun q => ⟨rfl, (nI_eq (by omega) (by omega)).mp q⟩, fun q => by rw [q.2]⟩
theorem done_r {s : Nat → Int32} {a o n : Nat} (ha : a ≤ n) (hn : n ≤ 6) (ho : o < 6) : (doneR s a = nI o) = (actsS s a = true ∧ a - 1 = o) := by
  unfold doneR
  cases h : actsS s a
  · rw [if_neg (by decide)]
    exact propext ⟨fun q => by have := nI_pos (n := o) (by omega); rw [← q] at this; exact absurd (by decide) this, fun q => absurd q.1 (by decide)⟩
  · rw [if_pos rfl]
    exact propext ⟨fun q => ⟨rfl, (nI_eq (by omega) (by omega)).mp q⟩, fun q => by rw [q.2]⟩
theorem goS_2 {s : Nat → Int32} {n a : Nat} (h : GymOk s n) (ha : a ≤ n) : goS s a 2 = s 2 := goS_out h ha (by omega) (by omega) (by omega)
theorem when_c {n o en : Nat} (ho : o < 6) (he : en ≤ 16) : ∀ (d t q : Nat) (m : Mm) (s : Nat → Int32), t + d = en → d < q → s 1 = nI t → s 2 = nI en → m (gp 0 0) 7 = nI en → Tr 2 m s n →
    ∃ m', fX11_when_32 q (nI o) (nI t) m = some (whenF o d s, m') ∧ Fr (gymP 2) m m' := by
  intro d
  induction d with
  | zero =>
    intro t q m s hd hq h1 h2 h7 hT
    obtain ⟨q, rfl⟩ : ∃ q', q = q' + 1 := ⟨q - 1, by omega⟩
    rw [fX11_when_32, h7, if_pos (nI_le (by omega) (by omega))]
    exact ⟨m, rfl, Fr.rf⟩
  | succ d ih =>
    intro t q m s hd hq h1 h2 h7 hT
    obtain ⟨q, rfl⟩ : ∃ q', q = q' + 1 := ⟨q - 1, by omega⟩
    have c : s 1 < s 2 := by rw [h1, h2]; exact nI_lt (by omega) (by omega)
    obtain ⟨m1, e, tt, f, dn⟩ := hT.go (by decide) (restS_le hT.2.1) c
    rw [fX11_when_32, h7, if_neg (nI_ge (by omega) (by omega)), restAct_c hT.1 hT.2.1, bd_s, e, bd_s, dn, whenF]
    have hd9 := done_c (s := s) (o := o) (restS_le hT.2.1) hT.2.1.2.1 ho
    by_cases k : actsS s (restS s) = true ∧ restS s - 1 = o
    · rw [if_pos (by rw [hd9]; exact k), if_pos k, h1]
      exact ⟨m1, rfl, f⟩
    · rw [if_neg (by rw [hd9]; exact k), if_neg k, lt_v, p1]
      obtain ⟨m2, e2, f2⟩ := ih (t + 1) q m1 _ (by omega) (by omega) (by rw [goS_1 hT.2.1 (restS_le hT.2.1), h1, p1]) (by rw [goS_2 hT.2.1 (restS_le hT.2.1)]; exact h2) (by rw [f (gp 0 0) (by unfold gymP gp; omega)]; exact h7) tt
      exact ⟨m2, e2, f.tr f2⟩
theorem when_r {n o en : Nat} {s0 : Nat → Int32} (ho : o < 6) (he : en ≤ 16) : ∀ (d t q : Nat) (m : Mm), t + d = en → d + 1 < q → m 1 1 = nI t → m 1 2 = nI en → Pl m s0 n →
    ∃ m', fX12_when_18 q (nI o) (-3) m = some (whenF o d (m 1), m') ∧ m' 1 = s0 ∧ (∀ q k, ¬ (q = 1 ∨ (q = 0 ∧ k = 13)) → m' q k = m q k) := by
  intro d
  induction d with
  | zero =>
    intro t q m hd hq h1 h2 hP
    obtain ⟨q, rfl⟩ : ∃ q', q = q' + 1 := ⟨q - 1, by omega⟩
    rw [fX12_when_18, isOver_r, bd_s, h1, h2, decide_eq_false (nI_nlt (by omega) (by omega)), if_neg (show ¬ b2 (!false) = 0 by decide), fX12_when_64, hP.back, bd_s]
    exact ⟨_, rfl, upA_same, fun q k hq => congrFun (upA_ne (by omega)) k⟩
  | succ d ih =>
    intro t q m hd hq h1 h2 hP
    obtain ⟨q, rfl⟩ : ∃ q', q = q' + 1 + 1 := ⟨q - 2, by omega⟩
    have c : m 1 1 < m 1 2 := by rw [h1, h2]; exact nI_lt (by omega) (by omega)
    obtain ⟨m1, e, e1, p, dn, f⟩ := hP.go (restS_le hP.1) c
    rw [fX12_when_18, isOver_r, bd_s, decide_eq_true c, if_pos (show b2 (!true) = 0 from rfl), if_neg (show ¬ (0 : Int32) ≤ -3 by decide), lt_v, restAct_r hP.1, bd_s, e, bd_s, dn, whenF]
    have hd9 := done_r (s := m 1) (o := o) (restS_le hP.1) hP.1.2.1 ho
    by_cases k : actsS (m 1) (restS (m 1)) = true ∧ restS (m 1) - 1 = o
    · rw [if_pos (by rw [hd9]; exact k), if_pos k, h1]
      have h64 : ∀ b : Bool, (if b2 b = 0 then (if 0 ≤ nI t then fX12_when_64 (nI t) m1 else lt (m1 1 1) fun x3_16 => bd (fX12_restAct m1) fun r_18 m_19 => bd (fX12_goesWith r_18 m_19) fun r_21 m_22 => (if (m_22 0 13) = nI o then (fX12_when_18 q (nI o) x3_16 m_22) else (fX12_when_18 q (nI o) (-3) m_22))) else fX12_when_64 (nI t) m1) = fX12_when_64 (nI t) m1 := by
        intro b
        rw [if_pos (nI_pos' (by omega))]
        split <;> rfl
      rw [fX12_when_18, isOver_r, bd_s, h64, fX12_when_64, p.back, bd_s]
      exact ⟨_, rfl, upA_same, fun q k hq => by rw [upA_ne (by omega)]; exact f q k hq⟩
    · rw [if_neg (by rw [hd9]; exact k), if_neg k]
      obtain ⟨m2, e2, e3, f2⟩ := ih (t + 1) (q + 1) m1 (by omega) (by omega) (by rw [e1, goS_1 hP.1 (restS_le hP.1), h1, p1]) (by rw [e1, goS_2 hP.1 (restS_le hP.1)]; exact h2) p
      rw [e1] at e2
      exact ⟨m2, e2, e3, fun q k hq => (f2 q k hq).trans (f q k hq)⟩
theorem op_when (a1 : Int32) : Op (fX11_when a1) (fX12_when a1) := by
  intro mc mr hR
  obtain ⟨n, hn⟩ := hR.2.1.1
  have h6 := hn.2.1
  unfold fX11_when fX12_when
  rw [hR.has hn, isOne_r hn.1, bd_s, bd_s]
  rcases isS_cases a1 (n := n) (by omega) with e | ⟨e, o, ho, rfl⟩
  · rw [e, if_pos b2f, if_pos b2f]; exact ⟨-1, mc, mr, rfl, rfl, hR⟩
  rw [e, if_neg b2t, if_neg b2t]
  obtain ⟨t, en, te, en1, en16, ht, he⟩ := hn.2.2.1
  obtain ⟨m1, q1, t1, f1⟩ := hR.tr hn (i := 2) (by decide)
  have hg0 : m1 (gp 0 0) = mc (gp 0 0) := f1 _ (by unfold gymP gp; omega)
  obtain ⟨m2, q2, f2⟩ := when_c (n := n) (o := o) (en := en) (by omega) en16 (en - t) t FL m1 _ (by omega) (by unfold FL; omega) ht he (by rw [hg0, hR.1.1.1.2.2.1, he]) t1
  obtain ⟨m3, q3, p3, e3, c3⟩ := hR.aside hn
  obtain ⟨m4, q4, e4, f4⟩ := when_r (n := n) (o := o) (en := en) (by omega) en16 (en - t) t FL m3 (by omega) (by unfold FL; omega) (by rw [e3]; exact ht) (by rw [e3]; exact he) p3
  rw [e3] at q4
  rw [q1, bd_s, lt_v, hg0, hR.1.1.1.2.1, ht, q2, q3, bd_s, q4]
  refine ⟨_, m2, m4, rfl, rfl, hR.of_eq (ce_trial (by decide) (f1.tr f2)) (fun q k hq => ?_)⟩
  unfold scrR at hq
  by_cases h1 : q = 1
  · subst h1; rw [e4]
  · rw [f4 q k (by omega), c3 q k (by omega)]
