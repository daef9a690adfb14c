section GOC
variable {i : Nat}
theorem cool_step_c {m : Mm} {s : Nat → Int32} {n u used : Nat} {x x4 : Int32} (hG : GymIs i m s) (hu : u < 3) (hd : (x4 = -3 ∧ used = 9) ∨ (x4 = nI used ∧ used ≤ 2)) :
    ∃ m', fX1_goBy_101 i (n + 1) x x4 (nI u) m = fX1_goBy_101 i n x x4 (nI (u + 1)) m' ∧ GymIs i m' (cool1 s used u) ∧ Fr (gymP i) m m' ∧ m' (gp i 0) = m (gp i 0) := by
  have he : (nI u = x4) = (u = used) := by
    rcases hd with ⟨rfl, rfl⟩ | ⟨rfl, h⟩
    · refine propext ⟨fun q => ?_, fun q => by omega⟩
      have := nI_pos (n := u) (by omega)
      rw [q] at this
      exact absurd (by decide) this
    · exact propext (nI_eq (by omega) (by omega))
  rw [fX1_goBy_101, if_neg (show ¬ (3 : Int32) ≤ nI u from nI_ge hu (by decide))]
  by_cases c : u = used
  · rw [if_pos (by rw [he]; exact c), lt_v, p1]
    refine ⟨m, rfl, ?_, Fr.rf, rfl⟩
    unfold cool1
    rw [if_neg (fun q => q.1 c)]
    exact hG
  · rw [if_neg (by rw [he]; exact c), gx_n hu (by decide), ix_n (by omega), hG.2.2.1 u hu]
    by_cases c1 : s (38 + u) ≤ 0
    · rw [if_pos c1, lt_v, p1]
      refine ⟨m, rfl, ?_, Fr.rf, rfl⟩
      unfold cool1
      rw [if_neg (fun q => Int32.not_lt.mpr c1 q.2)]
      exact hG
    · rw [if_neg c1, lt_v, lt_v, p1]
      refine ⟨_, rfl, ?_, Fr.rf.up (gymP_in (by decide)), up_row (gp_ne (by decide))⟩
      unfold cool1
      rw [if_pos ⟨c, Int32.not_le.mp c1⟩]
      exact hG.up_tired hu
theorem cool_c {m : Mm} {s : Nat → Int32} {used : Nat} {x x4 : Int32} (hG : GymIs i m s) (hd : (x4 = -3 ∧ used = 9) ∨ (x4 = nI used ∧ used ≤ 2)) :
    ∃ m', fX1_goBy_101 i FL x x4 0 m = some (x, m') ∧ GymIs i m' (tickS (coolS s used) x) ∧ Fr (gymP i) m m' ∧ m' (gp i 0) 10 = m (gp i 0) 10 := by
  obtain ⟨a1, q1, g1, f1, d1⟩ := cool_step_c (n := 4092 + 1 + 1 + 1) (u := 0) (x := x) hG (by decide) hd
  obtain ⟨a2, q2, g2, f2, d2⟩ := cool_step_c (n := 4092 + 1 + 1) (u := 0 + 1) (x := x) g1 (by decide) hd
  obtain ⟨a3, q3, g3, f3, d3⟩ := cool_step_c (n := 4092 + 1) (u := 0 + 1 + 1) (x := x) g2 (by decide) hd
  rw [show FL = 4092 + 1 + 1 + 1 + 1 from rfl, show (0 : Int32) = nI 0 from rfl, q1, q2, q3, fX1_goBy_101, if_pos (show (3 : Int32) ≤ nI (0 + 1 + 1 + 1) by decide), lt_v, lt_v]
  have P0 : gymP i (gp i 0) := gymP_in (by decide)
  refine ⟨_, rfl, ?_, ((((f1.tr f2).tr f3).up P0).up P0), ?_⟩
  · have g4 := g3.up_fld (k := 6) (v := a3 (gp i 0) 6 + 1) (by omega)
    have g5 := g4.up_fld (k := 8) (v := (up a3 (gp i 0) 6 (a3 (gp i 0) 6 + 1)) (gp i 0) 8 + x) (by omega)
    rw [g4.1.2.2.2.1] at g5 ⊢
    rw [g3.1.2.1] at g5 ⊢
    exact g5
  · rw [up_ne (Or.inr (by decide)), up_ne (Or.inr (by decide)), d3, d2, d1]
theorem goBy_c {m : Mm} {s : Nat → Int32} {n a : Nat} (hG : GymIs i m s) (hK : GymOk s n) (ha : a ≤ n) (hR : RulesOk s) (hi : i < 8) (hI : RulesIs (rI i) m s) :
    ∃ m', fX1_goBy i (nI a) m = some (worthS s a, m') ∧ GymIs i m' (goS s a) ∧ Fr (gymP i) m m' ∧ m' (gp i 0) 10 = doneC s a := by
  obtain ⟨h0, h6, ⟨t, e, te, e1, e16, ht, he⟩, hS1, hT, hL, hM⟩ := hK
  have P0 : gymP i (gp i 0) := gymP_in (by decide)
  let m3 := up m (gp i 0) 10 (-3)
  have G3 : GymIs i m3 s := hG.up_done
  have F3 : Fr (gymP i) m m3 := Fr.rf.up P0
  have rj : rI i < 3 := by unfold rI; split <;> omega
  have R3 : RulesIs (rI i) m3 s := hI.fr rj F3
  have skip : ∀ m4, GymIs i m4 s → Fr (gymP i) m m4 → m4 (gp i 0) 10 = -3 → actsS s a = false → ∃ m', fX1_goBy_73 i 0 m4 = some (worthS s a, m') ∧ GymIs i m' (goS s a) ∧ Fr (gymP i) m m' ∧ m' (gp i 0) 10 = doneC s a := by
    intro m4 G4 F4 d4 h
    obtain ⟨m5, q, g, f, d⟩ := cool_c (used := 9) (x := 0) G4 (Or.inl ⟨rfl, rfl⟩)
    refine ⟨m5, ?_, ?_, F4.tr f, ?_⟩
    · unfold fX1_goBy_73 worthS
      rw [d4, if_pos (by decide), q, h]
      rfl
    · unfold goS worthS midS usedS
      rw [h]
      exact g
    · unfold doneC
      rw [d, d4, h]
      rfl
  unfold fX1_goBy
  have hhas := fun x => has_c (i := i) (m := m3) (n := n) (G3.1.1.trans h0) (by omega) x
  by_cases a0 : a = 0
  · subst a0
    rw [show nI 0 - 1 = -1 from by decide, lt_v]
    show ∃ m', lt m3 _ = _ ∧ _
    rw [lt_v, hhas, bd_s, show (decide (¬ (-1 : Int32) < 0) && decide ((-1 : Int32) < nI n)) = false from by rw [decide_eq_false (show ¬ ¬ (-1 : Int32) < 0 by decide)]; rfl]
    rw [if_pos (show b2 false = 0 from rfl)]
    exact skip m3 G3 F3 up_at (by unfold actsS; simp)
  · have ho : a - 1 < 6 := by omega
    have hK : SetOk s (a - 1) := hS1 _ (by omega)
    rw [m1 (by omega), lt_v]
    show ∃ m', lt m3 _ = _ ∧ _
    rw [lt_v, hhas, bd_s, show (decide (¬ nI (a - 1) < 0) && decide (nI (a - 1) < nI n)) = true from by rw [decide_eq_true (nI_pos (by omega)), decide_eq_true (nI_lt (by omega) (by omega))]; rfl]
    rw [if_neg (show ¬ b2 true = 0 by decide), gx_n ho (by decide), ix_n (by omega), g_left G3 ho]
    by_cases hl : s (8 + 5 * (a - 1) + 4) ≤ 0
    · rw [if_pos hl]
      exact skip m3 G3 F3 up_at (by unfold actsS; rw [decide_eq_false (fun q => Int32.not_lt.mpr hl q)]; simp)
    · rw [if_neg hl]
      have hl' := Int32.not_le.mp hl
      rw [G3.1.2.1, mayIn_c G3 ho hK (t := s 1) (by rw [ht]; exact nI_pos (by omega)), bd_s]
      cases hm : mayS s (a - 1) (s 1)
      · rw [if_pos (show b2 false = 0 from rfl)]
        exact skip m3 G3 F3 up_at (by unfold actsS; rw [hm]; simp)
      · rw [if_neg (show ¬ b2 true = 0 by decide)]
        obtain ⟨m4, q4, G4, F4, d4⟩ := will_c G3 ho hK hR hi R3
        rw [q4, bd_s]
        have F34 := F3.tr F4
        have d34 : m4 (gp i 0) 10 = -3 := by rw [d4]; exact up_at
        by_cases hw2 : willS s (a - 1) = 2
        · rw [if_pos hw2]
          exact skip m4 G4 F34 d34 (by unfold actsS; rw [hw2]; simp)
        · rw [if_neg hw2]
          have hac : actsS s a = true := by
            unfold actsS
            rw [decide_eq_true (show 1 ≤ a by omega), decide_eq_true hl', hm, decide_eq_false hw2]
            rfl
          obtain ⟨u, -, u2, hu⟩ := hK.2.2.2.1
          have emu : muS s (a - 1) = u := by unfold muS; rw [hu, ix_n (by omega)]
          obtain ⟨ma, -, ma5, hma⟩ := hK.2.1
          have ema : maS s (a - 1) = ma := by unfold maS; rw [hma, ix_n (by omega)]
          have go : ∀ x : Int32, (x = 0) = (easeS s a = false) → ∃ m', fX1_goBy_69 i x (nI (a - 1)) m4 = some (worthS s a, m') ∧ GymIs i m' (goS s a) ∧ Fr (gymP i) m m' ∧ m' (gp i 0) 10 = doneC s a := by
            intro x hx
            obtain ⟨m5, q5, G5, F5, d5⟩ := doSet_c (e := easeS s a) (x := x) G4 ho hK hL hx
            obtain ⟨m6, q6, G6, F6, d6⟩ := cool_c (used := u) (x := worthDo s (a - 1) (easeS s a)) (x4 := nI u) G5 (Or.inr ⟨rfl, u2⟩)
            refine ⟨m6, ?_, ?_, (F34.tr F5).tr F6, ?_⟩
            · unfold fX1_goBy_69
              rw [q5, bd_s]
              unfold fX1_goBy_73
              rw [d5, if_neg (nI_pos (by omega)), gx_n ho (by decide), ix_n (by omega), g_mus G5 ho, show doS s (a - 1) (easeS s a) (8 + 5 * (a - 1) + 3) = nI u from by
                unfold doS; rw [ema, emu, pk_un (by omega), pk_un (by omega), pk_un (by omega)]; exact hu, lt_v, q6]
              unfold worthS
              rw [hac]
              rfl
            · unfold goS worthS midS usedS
              rw [hac, if_pos rfl, if_pos rfl, if_pos rfl, emu]
              exact G6
            · unfold doneC
              rw [d6, d5, hac]
              rfl
          by_cases hw1 : willS s (a - 1) = 1
          · rw [if_pos hw1]
            exact go 1 (by unfold easeS; rw [hw1]; exact propext ⟨fun q => absurd q (by decide), fun q => absurd q (by decide)⟩)
          · rw [if_neg hw1]
            exact go 0 (by unfold easeS; rw [decide_eq_false hw1]; exact propext ⟨fun _ => rfl, fun _ => rfl⟩)
end GOC
/-! what a minute leaves as it is -/
theorem bd_down {x : Int32} {h : Nat} (hb : Bd 0 h x) (hh : h < 2 ^ 31) (hp : 0 < x) : Bd 0 h (x - 1) := by
  obtain ⟨v, -, v2, rfl⟩ := hb
  have : 1 ≤ v := by
    rcases Nat.eq_zero_or_pos v with rfl | h
    · exact absurd hp (by decide)
    · exact h
  rw [m1 this]
  exact Bd.n (by omega) (by omega)
theorem tiresK_bd {k : Nat} : ∃ v : Nat, v ≤ 3 ∧ tiresK k = nI v := by
  unfold tiresK
  split
  · exact ⟨3, by decide, rfl⟩
  · split
    · exact ⟨1, by decide, rfl⟩
    · split
      · exact ⟨1, by decide, rfl⟩
      · split
        · exact ⟨2, by decide, rfl⟩
        · split
          · exact ⟨3, by decide, rfl⟩
          · exact ⟨2, by decide, rfl⟩
theorem tiredS_bd {s : Nat → Int32} {o : Nat} {e : Bool} (h : Bd 0 9 (s (38 + muS s o))) : Bd 0 9 (tiredS s o e) := by
  obtain ⟨v, -, v9, hv⟩ := h
  have : ∃ w : Nat, w ≤ 3 ∧ (if e = true then (1 : Int32) else tiresK (ix (s (8 + 5 * o)))) = nI w := by
    cases e
    · exact tiresK_bd
    · exact ⟨1, by decide, rfl⟩
  obtain ⟨w, w3, hw⟩ := this
  unfold tiredS
  rw [hw, hv, nI_add, show (9 : Int32) = nI 9 from rfl]
  by_cases c : v + w < 9
  · rw [if_pos (nI_lt c (by decide))]; exact Bd.n (by omega) (by omega)
  · rw [if_neg (nI_nlt (by omega) (by omega))]; exact Bd.n (by omega) (by omega)
/-- one change of the row that keeps the gym in order -/
theorem GymOk.mid {s : Nat → Int32} {n a : Nat} (h : GymOk s n) (ha : a ≤ n) : GymOk (midS s a) n := by
  unfold midS
  split
  · next hc =>
    have h1 : 1 ≤ a := by unfold actsS at hc; simp at hc; exact hc.1
    have hl : 0 < s (8 + 5 * (a - 1) + 4) := by unfold actsS at hc; simp at hc; exact hc.2.1
    obtain ⟨h0, h6, ⟨t, e, te, e1, e16, ht, he⟩, hS1, hT, hL, hM⟩ := h
    have hK := hS1 (a - 1) (by omega)
    obtain ⟨u, -, u2, hu⟩ := hK.2.2.2.1
    have emu : muS s (a - 1) = u := by unfold muS; rw [hu, ix_n (by omega)]
    obtain ⟨ma, -, ma5, hma⟩ := hK.2.1
    have ema : maS s (a - 1) = ma := by unfold maS; rw [hma, ix_n (by omega)]
    unfold doS
    rw [emu, ema]
    refine ⟨?_, h6, ⟨t, e, te, e1, e16, ?_, ?_⟩, fun o ho => ?_, fun v hv => ?_, fun k hk => ?_, fun k hk => ?_⟩
    · rw [pk_un (by omega), pk_un (by omega), pk_un (by omega)]; exact h0
    · rw [pk_un (by omega), pk_un (by omega), pk_un (by omega)]; exact ht
    · rw [pk_un (by omega), pk_un (by omega), pk_un (by omega)]; exact he
    · obtain ⟨b1, b2, b3, b4, b5⟩ := hS1 o ho
      refine ⟨?_, ?_, ?_, ?_, ?_⟩
      · rw [pk_un (by omega), pk_un (by omega), pk_un (by omega)]; exact b1
      · rw [pk_un (by omega), pk_un (by omega), pk_un (by omega)]; exact b2
      · rw [pk_un (by omega), pk_un (by omega), pk_un (by omega)]; exact b3
      · rw [pk_un (by omega), pk_un (by omega), pk_un (by omega)]; exact b4
      · rw [pk_un (by omega)]
        by_cases e : o = a - 1
        · subst e; rw [pk_us]; exact bd_down b5 (by decide) hl
        · rw [pk_un (by omega), pk_un (by omega)]; exact b5
    · rw [pk_un (by omega), pk_un (by omega)]
      by_cases e : v = u
      · subst e; rw [pk_us]; exact tiredS_bd (by rw [emu]; exact hT _ hv)
      · rw [pk_un (by omega)]; exact hT v hv
    · by_cases e : k = ma
      · subst e; rw [pk_us]; exact hK.2.2.1.mono (by decide) (by decide)
      · rw [pk_un (by omega), pk_un (by omega), pk_un (by omega)]; exact hL k hk
    · rw [pk_un (by omega), pk_un (by omega), pk_un (by omega)]; exact hM k hk
  · exact h
theorem GymOk.cool_one {s : Nat → Int32} {n used u : Nat} (h : GymOk s n) (hu : u < 3) : GymOk (cool1 s used u) n := by
  obtain ⟨h0, h6, ⟨t, e, te, e1, e16, ht, he⟩, hS1, hT, hL, hM⟩ := h
  refine ⟨by rw [cool1_out (by omega) hu]; exact h0, h6, ⟨t, e, te, e1, e16, by rw [cool1_out (by omega) hu]; exact ht, by rw [cool1_out (by omega) hu]; exact he⟩, fun o ho => ?_, fun v hv => ?_, fun k hk => ?_, fun k hk => ?_⟩
  · obtain ⟨b1, b2, b3, b4, b5⟩ := hS1 o ho
    have := h6
    exact ⟨by rw [cool1_out (by omega) hu]; exact b1, by rw [cool1_out (by omega) hu]; exact b2, by rw [cool1_out (by omega) hu]; exact b3, by rw [cool1_out (by omega) hu]; exact b4, by rw [cool1_out (by omega) hu]; exact b5⟩
  · unfold cool1
    split
    · next hc =>
      by_cases e : v = u
      · subst e; rw [pk_us]; exact bd_down (hT _ hv) (by decide) hc.2
      · rw [pk_un (by omega)]; exact hT v hv
    · exact hT v hv
  · rw [cool1_out (by omega) hu]; exact hL k hk
  · rw [cool1_out (by omega) hu]; exact hM k hk
theorem GymOk.cool {s : Nat → Int32} {n used : Nat} (h : GymOk s n) : GymOk (coolS s used) n := ((h.cool_one (by decide)).cool_one (by decide)).cool_one (by decide)
theorem GymOk.tick {s : Nat → Int32} {n : Nat} {w : Int32} (h : GymOk s n) (ho : s 1 < s 2) : GymOk (tickS s w) n := by
  obtain ⟨h0, h6, ⟨t, e, te, e1, e16, ht, he⟩, hS1, hT, hL, hM⟩ := h
  have ht1 : t < e := by
    rw [ht, he] at ho
    exact (nI_ltI (by omega) (by omega)).mp ho
  unfold tickS
  refine ⟨?_, h6, ⟨t + 1, e, ht1, e1, e16, ?_, ?_⟩, fun o ho => ?_, fun v hv => ?_, fun k hk => ?_, fun k hk => ?_⟩
  · rw [pk_un (by omega), pk_un (by omega)]; exact h0
  · rw [pk_un (by omega), pk_us, ht, p1]
  · rw [pk_un (by omega), pk_un (by omega)]; exact he
  · obtain ⟨b1, b2, b3, b4, b5⟩ := hS1 o ho
    exact ⟨by rw [pk_un (by omega), pk_un (by omega)]; exact b1, by rw [pk_un (by omega), pk_un (by omega)]; exact b2, by rw [pk_un (by omega), pk_un (by omega)]; exact b3, by rw [pk_un (by omega), pk_un (by omega)]; exact b4, by rw [pk_un (by omega), pk_un (by omega)]; exact b5⟩
  · rw [pk_un (by omega), pk_un (by omega)]; exact hT v hv
  · rw [pk_un (by omega), pk_un (by omega)]; exact hL k hk
  · rw [pk_un (by omega), pk_un (by omega)]; exact hM k hk
theorem midS_out {s : Nat → Int32} {n a k : Nat} (h : GymOk s n) (ha : a ≤ n) (hk : k < 8 ∨ 47 ≤ k) : midS s a k = s k := by
  unfold midS
  split
  · next hc =>
    have h1 : 1 ≤ a := by unfold actsS at hc; simp at hc; exact hc.1
    obtain ⟨h0, h6, -, hS1, -⟩ := h
    have hK := hS1 (a - 1) (by omega)
    obtain ⟨u, -, u2, hu⟩ := hK.2.2.2.1
    have emu : muS s (a - 1) = u := by unfold muS; rw [hu, ix_n (by omega)]
    obtain ⟨ma, -, ma5, hma⟩ := hK.2.1
    have ema : maS s (a - 1) = ma := by unfold maS; rw [hma, ix_n (by omega)]
    unfold doS
    rw [emu, ema, pk_un (by omega), pk_un (by omega), pk_un (by omega)]
  · rfl
theorem GymOk.go {s : Nat → Int32} {n a : Nat} (h : GymOk s n) (ha : a ≤ n) (ho : s 1 < s 2) : GymOk (goS s a) n :=
  ((h.mid ha).cool).tick (by rw [coolS_out (by omega), coolS_out (by omega), midS_out h ha (by omega), midS_out h ha (by omega)]; exact ho)
theorem goS_out {s : Nat → Int32} {n a k : Nat} (h : GymOk s n) (ha : a ≤ n) (hk : k < 8 ∨ 47 ≤ k) (k1 : k ≠ 1) (k3 : k ≠ 3) : goS s a k = s k := by
  unfold goS tickS
  rw [pk_un k3, pk_un k1, coolS_out (by omega), midS_out h ha hk]
theorem goS_1 {s : Nat → Int32} {n a : Nat} (h : GymOk s n) (ha : a ≤ n) : goS s a 1 = s 1 + 1 := by
  unfold goS tickS
  rw [pk_un (by decide), pk_us, coolS_out (by omega), midS_out h ha (by omega)]
/-- the rules read only their own slots -/
theorem RulesOk.of_eq {s s' : Nat → Int32} (h : RulesOk s) (e : ∀ k, k = 5 ∨ k = 7 ∨ 53 ≤ k → s' k = s k) : RulesOk s' := by
  obtain ⟨a, b, c⟩ := h
  have e5 := e 5 (by omega)
  have e7 := e 7 (by omega)
  refine ⟨by rw [e5]; exact a, by rw [e7]; exact b, fun r hr => ?_⟩
  rw [e5] at hr
  obtain ⟨r1, r2, x, y, xy, y7, hx, hy, hc⟩ := c r hr
  refine ⟨by rw [e _ (by omega)]; exact r1, by rw [e _ (by omega)]; exact r2, x, y, xy, by rw [e7]; exact y7, by rw [e _ (by omega)]; exact hx, by rw [e _ (by omega)]; exact hy, ?_⟩
  have : ∀ d k, cmpN s' k d = cmpN s k d := by
    intro d
    induction d with
    | zero => intro k; rfl
    | succ d ih => intro k; rw [cmpN, cmpN, ih, e _ (by omega)]
  rw [this]
  exact hc
theorem StepsIs.row_eq {j : Nat} {m : Mm} {s s' : Nat → Int32} {n : Nat} (h : StepsIs j m s n) (e : ∀ k, 53 ≤ k → s' k = s k) : StepsIs j m s' n := by
  intro k hk
  have := h k hk
  rw [← e _ (by omega), ← e _ (by omega), ← e _ (by omega)] at this
  exact this
theorem RulesIs.row_eq {j : Nat} {m : Mm} {s s' : Nat → Int32} (h : RulesIs j m s) (e : ∀ k, k = 5 ∨ k = 7 ∨ 53 ≤ k → s' k = s k) : RulesIs j m s' := by
  obtain ⟨a, b, c, d⟩ := h
  refine ⟨by rw [e 5 (by omega)]; exact a, by rw [e 7 (by omega)]; exact b, fun r hr => ?_, ?_⟩
  · rw [e 5 (by omega)] at hr
    obtain ⟨c1, c2, c3, c4⟩ := c r hr
    exact ⟨by rw [e _ (by omega)]; exact c1, by rw [e _ (by omega)]; exact c2, by rw [e _ (by omega)]; exact c3, by rw [e _ (by omega)]; exact c4⟩
  · rw [e 7 (by omega)]
    exact d.row_eq (fun k hk => e k (by omega))
/-! the act of the rest -/
def restF (s : Nat → Int32) : Nat → Nat → Nat
  | _, 0 => 0
  | r, d + 1 => if (decide (0 < s (8 + 5 * r + 4)) && mayS s r (s 1)) = true then r + 1 else restF s (r + 1) d
def restS (s : Nat → Int32) : Nat := restF s 0 (ix (s 0))
theorem restF_le {s : Nat → Int32} : ∀ (d r : Nat), restF s r d ≤ r + d := by
  intro d
  induction d with
  | zero => intro r; exact Nat.zero_le _
  | succ d ih =>
    intro r
    rw [restF]
    split
    · omega
    · have := ih (r + 1); omega
theorem restS_le {s : Nat → Int32} {n : Nat} (h : GymOk s n) : restS s ≤ n := by
  have := restF_le (s := s) (ix (s 0)) 0
  rw [h.1, ix_n (by have := h.2.1; omega)] at this
  unfold restS
  rw [h.1, ix_n (by have := h.2.1; omega)]
  omega
theorem rest_r {m : Mm} {n : Nat} (h : GymOk (m 1) n) : ∀ (d r q : Nat), r + d = n → d < q → fX12_restAct_2 q (nI r) m = some (nI (restF (m 1) r d), m) := by
  obtain ⟨h0, h6, ⟨t, e, te, e1, e16, ht, he⟩, hS1, -⟩ := h
  intro d
  induction d with
  | zero =>
    intro r q hd hq
    obtain ⟨q, rfl⟩ : ∃ q', q = q' + 1 := ⟨q - 1, by omega⟩
    rw [fX12_restAct_2, h0, if_pos (nI_le (by omega) (by omega))]
    rfl
  | succ d ih =>
    intro r q hd hq
    obtain ⟨q, rfl⟩ : ∃ q', q = q' + 1 := ⟨q - 1, by omega⟩
    have ho : r < 6 := by omega
    have hK := hS1 r (by omega)
    have go := ih (r + 1) q (by omega) (by omega)
    rw [fX12_restAct_2, h0, if_neg (nI_ge (by omega) (by omega)), its4 ho, bd_s, restF]
    by_cases hl : m 1 (8 + 5 * r + 4) ≤ 0
    · rw [if_pos hl, lt_v, p1, go, decide_eq_false (fun q => Int32.not_lt.mpr hl q)]; rfl
    · rw [if_neg hl, decide_eq_true (Int32.not_le.mp hl), may_r ho hK (by rw [ht]; exact nI_pos (by omega)), bd_s]
      cases hm : mayS (m 1) r (m 1 1)
      · rw [if_pos (show b2 false = 0 from rfl), lt_v, p1, go]; rfl
      · rw [if_neg (show ¬ b2 true = 0 by decide), p1]; rfl
theorem restAct_r {m : Mm} {n : Nat} (h : GymOk (m 1) n) : fX12_restAct m = some (nI (restS (m 1)), m) := by
  have := rest_r h n 0 FL (by omega) (by have := h.2.1; unfold FL; omega)
  unfold fX12_restAct restS
  rw [show (0 : Int32) = nI 0 from rfl, this, h.1, ix_n (by have := h.2.1; omega)]
theorem rest_c {i : Nat} {m : Mm} {s : Nat → Int32} {n : Nat} (hG : GymIs i m s) (h : GymOk s n) : ∀ (d r q : Nat), r + d = n → d < q → fX1_restAct_2 i q (nI r) m = some (nI (restF s r d), m) := by
  obtain ⟨h0, h6, ⟨t, e, te, e1, e16, ht, he⟩, hS1, -⟩ := h
  intro d
  induction d with
  | zero =>
    intro r q hd hq
    obtain ⟨q, rfl⟩ : ∃ q', q = q' + 1 := ⟨q - 1, by omega⟩
    rw [fX1_restAct_2, hG.1.1, h0, if_pos (nI_le (by omega) (by omega))]
    rfl
  | succ d ih =>
    intro r q hd hq
    obtain ⟨q, rfl⟩ : ∃ q', q = q' + 1 := ⟨q - 1, by omega⟩
    have ho : r < 6 := by omega
    have hK := hS1 r (by omega)
    have go := ih (r + 1) q (by omega) (by omega)
    rw [fX1_restAct_2, hG.1.1, h0, if_neg (nI_ge (by omega) (by omega)), gx_n ho (by decide), ix_n (by omega), g_left hG ho, restF]
    by_cases hl : s (8 + 5 * r + 4) ≤ 0
    · rw [if_pos hl, lt_v, p1, go, decide_eq_false (fun q => Int32.not_lt.mpr hl q)]; rfl
    · rw [if_neg hl, decide_eq_true (Int32.not_le.mp hl), hG.1.2.1, mayIn_c hG ho hK (by rw [ht]; exact nI_pos (by omega)), bd_s]
      cases hm : mayS s r (s 1)
      · rw [if_pos (show b2 false = 0 from rfl), lt_v, p1, go]; rfl
      · rw [if_neg (show ¬ b2 true = 0 by decide), p1]; rfl
theorem restAct_c {i : Nat} {m : Mm} {s : Nat → Int32} {n : Nat} (hG : GymIs i m s) (h : GymOk s n) : fX1_restAct i m = some (nI (restS s), m) := by
  have := rest_c hG h n 0 FL (by omega) (by have := h.2.1; unfold FL; omega)
  unfold fX1_restAct restS
  rw [show (0 : Int32) = nI 0 from rfl, this, h.1, ix_n (by have := h.2.1; omega)]
theorem isOver_r (m : Mm) : fX12_isOver m = some (b2 (!decide (m 1 1 < m 1 2)), m) := by
  unfold fX12_isOver
  by_cases c : m 1 1 < m 1 2
  · rw [if_pos c, decide_eq_true c]; rfl
  · rw [if_neg c, decide_eq_false c]; rfl
theorem isOver_c {i : Nat} {m : Mm} {s : Nat → Int32} (hG : GymIs i m s) : fX1_isOver i m = some (b2 (!decide (s 1 < s 2)), m) := by
  unfold fX1_isOver
  rw [hG.1.2.1, hG.1.2.2.1]
  by_cases c : s 1 < s 2
  · rw [if_pos c, decide_eq_true c]; rfl
  · rw [if_neg c, decide_eq_false c]; rfl
