/-! a minute goes by -/
def actsS (s : Nat → Int32) (a : Nat) : Bool := decide (1 ≤ a) && (decide (0 < s (8 + 5 * (a - 1) + 4)) && (mayS s (a - 1) (s 1) && !decide (willS s (a - 1) = 2)))
def easeS (s : Nat → Int32) (a : Nat) : Bool := decide (willS s (a - 1) = 1)
def midS (s : Nat → Int32) (a : Nat) : Nat → Int32 := if actsS s a = true then doS s (a - 1) (easeS s a) else s
def worthS (s : Nat → Int32) (a : Nat) : Int32 := if actsS s a = true then worthDo s (a - 1) (easeS s a) else 0
def usedS (s : Nat → Int32) (a : Nat) : Nat := if actsS s a = true then muS s (a - 1) else 9
def doneR (s : Nat → Int32) (a : Nat) : Int32 := if actsS s a = true then nI (a - 1) else -1
def doneC (s : Nat → Int32) (a : Nat) : Int32 := if actsS s a = true then nI (a - 1) else -3
def cool1 (s : Nat → Int32) (used u : Nat) : Nat → Int32 := if u ≠ used ∧ 0 < s (38 + u) then upd s (38 + u) (s (38 + u) - 1) else s
def coolS (s : Nat → Int32) (used : Nat) : Nat → Int32 := cool1 (cool1 (cool1 s used 0) used 1) used 2
def tickS (s : Nat → Int32) (w : Int32) : Nat → Int32 := upd (upd s 1 (s 1 + 1)) 3 (upd s 1 (s 1 + 1) 3 + w)
def goS (s : Nat → Int32) (a : Nat) : Nat → Int32 := tickS (coolS (midS s a) (usedS s a)) (worthS s a)
theorem upd_self {f : Nat → Int32} {k : Nat} : upd f k (f k) = f := by
  funext j
  rw [u_app]
  split
  · next h => rw [h]
  · rfl
theorem upA_self {m : Mm} {p : Nat} : upA m p (m p) = m := by
  funext q
  by_cases h : q = p
  · subst h; rw [upA_same]
  · rw [upA_ne h]
theorem upA_upA {m : Mm} {p : Nat} {f g : Nat → Int32} : upA (upA m p f) p g = upA m p g := by
  funext q
  by_cases h : q = p
  · subst h; rw [upA_same, upA_same]
  · rw [upA_ne h, upA_ne h, upA_ne h]
theorem upA_comm {m : Mm} {p q : Nat} {f g : Nat → Int32} (h : p ≠ q) : upA (upA m p f) q g = upA (upA m q g) p f := by
  funext r
  by_cases h1 : r = p
  · subst h1; rw [upA_same, upA_ne h, upA_same]
  · by_cases h2 : r = q
    · subst h2; rw [upA_same, upA_ne h1, upA_same]
    · rw [upA_ne h2, upA_ne h1, upA_ne h1, upA_ne h2]
theorem up_up1 {m : Mm} {f : Nat → Int32} {p k : Nat} {v : Int32} : up (upA m p f) p k v = upA m p (upd f k v) := by
  show upA (upA m p f) p (upd (upA m p f p) k v) = _
  rw [upA_same, upA_upA]
theorem up_upA_ne {m : Mm} {f : Nat → Int32} {p q k : Nat} {v : Int32} (h : p ≠ q) : up (upA m p f) q k v = upA (up m q k v) p f := by
  show upA (upA m p f) q (upd (upA m p f q) k v) = _
  rw [upA_ne (Ne.symm h), upA_comm h]
  rfl
theorem i_sub0 (x : Int32) : x - 0 = x := Int32.sub_zero x
theorem willF_cases {s : Nat → Int32} {o : Nat} (hr : ∀ r, r < ix (s 5) → RuleOk s r) : ∀ (d r : Nat), r + d = ix (s 5) → willF s o r d = 0 ∨ willF s o r d = 1 ∨ willF s o r d = 2 := by
  intro d
  induction d with
  | zero => intro r _; exact Or.inl rfl
  | succ d ih =>
    intro r h
    rw [willF]
    split
    · obtain ⟨-, ⟨v, -, v2, hv⟩, -⟩ := hr r (by omega)
      rw [hv]
      rcases (show v = 0 ∨ v = 1 ∨ v = 2 by omega) with rfl | rfl | rfl
      · exact Or.inl rfl
      · exact Or.inr (Or.inl rfl)
      · exact Or.inr (Or.inr rfl)
    · exact ih (r + 1) (by omega)
theorem willS_cases {s : Nat → Int32} (hR : RulesOk s) (o : Nat) : willS s o = 0 ∨ willS s o = 1 ∨ willS s o = 2 := willF_cases hR.2.2 _ _ (by omega)
theorem upd_upd {f : Nat → Int32} {k : Nat} {v w : Int32} : upd (upd f k v) k w = upd f k w := by
  funext j
  rw [u_app, u_app, u_app]
  split <;> rfl
section GOR
variable {m : Mm}
theorem cool_step_r {n u used : Nat} {x : Int32} (hu : u < 3) (hd : (m 0 13 = -1 ∧ used = 9) ∨ ∃ o, o < 6 ∧ m 0 13 = nI o ∧ m 1 (8 + 5 * o + 3) = nI used ∧ used ≤ 2) :
    fX12_goesWith_61 (n + 1) x (nI u) m = fX12_goesWith_61 n x (nI (u + 1)) (upA m 1 (cool1 (m 1) used u)) := by
  have keep : fX12_goesWith_128 (fun x3 x4 m => fX12_goesWith_61 n x3 x4 m) x (nI u) (m 1 (38 + u)) (nI (38 + u)) m = fX12_goesWith_61 n x (nI (u + 1)) m := by
    unfold fX12_goesWith_128
    rw [gx_n (by omega) (by decide), ix_n (by omega), i_sub0, lt_v, lt_v, p1, show up m 1 (38 + u) (m 1 (38 + u)) = m from by unfold up; rw [upd_self, upA_self]]
  have other : u ≠ used → fX12_goesWith_93 (fun x3 x4 m => fX12_goesWith_61 n x3 x4 m) x (nI u) 1 m = fX12_goesWith_61 n x (nI (u + 1)) (upA m 1 (cool1 (m 1) used u)) := by
    intro hne
    unfold fX12_goesWith_93 cool1
    rw [show (38 : Int32) = nI 38 from rfl, nI_add, gx_n (by omega) (by decide), ix_n (by omega), if_neg (show ¬ (1 : Int32) = 0 by decide)]
    by_cases c : m 1 (38 + u) ≤ 0
    · rw [if_pos c, if_neg (fun q => Int32.not_lt.mpr c q.2), upA_self, keep]
    · rw [if_neg c, if_pos ⟨hne, Int32.not_le.mp c⟩, lt_v, lt_v, p1]
      rfl
  rw [fX12_goesWith_61, if_neg (show ¬ (3 : Int32) ≤ nI u from nI_ge hu (by decide))]
  rcases hd with ⟨h13, rfl⟩ | ⟨o, ho, h13, hm, h2⟩
  · rw [h13, if_pos (by decide), other (by omega)]
  · rw [h13, if_neg (nI_pos (by omega)), its3 ho, bd_s, hm]
    by_cases e : used = u
    · subst e
      rw [if_pos rfl]
      unfold fX12_goesWith_93 cool1
      rw [show (38 : Int32) = nI 38 from rfl, nI_add, gx_n (by omega) (by decide), ix_n (by omega), if_pos rfl, keep, if_neg (fun q => q.1 rfl), upA_self]
    · rw [if_neg (fun q => e ((nI_eq (by omega) (by omega)).mp q)), other (fun q => e q.symm)]
theorem cool1_out {s : Nat → Int32} {used u k : Nat} (h : k < 38 ∨ 41 ≤ k) (hu : u < 3) : cool1 s used u k = s k := by
  unfold cool1
  split
  · exact pk_un (by omega)
  · rfl
theorem coolS_out {s : Nat → Int32} {used k : Nat} (h : k < 38 ∨ 41 ≤ k) : coolS s used k = s k := by
  unfold coolS
  rw [cool1_out h (by decide), cool1_out h (by decide), cool1_out h (by decide)]
theorem cool_r {used : Nat} {x : Int32} (hd : (m 0 13 = -1 ∧ used = 9) ∨ ∃ o, o < 6 ∧ m 0 13 = nI o ∧ m 1 (8 + 5 * o + 3) = nI used ∧ used ≤ 2) :
    fX12_goesWith_61 FL x 0 m = some (x, upA m 1 (tickS (coolS (m 1) used) x)) := by
  rw [show FL = 4092 + 1 + 1 + 1 + 1 from rfl, show (0 : Int32) = nI 0 from rfl, cool_step_r (by decide) hd]
  have hd1 : ∀ f : Nat → Int32, (∀ k, k < 38 → f k = m 1 k) → ((upA m 1 f) 0 13 = -1 ∧ used = 9) ∨ ∃ o, o < 6 ∧ (upA m 1 f) 0 13 = nI o ∧ (upA m 1 f) 1 (8 + 5 * o + 3) = nI used ∧ used ≤ 2 := by
    intro f hf
    rw [upA_ne (by decide), upA_same]
    rcases hd with h | ⟨o, ho, h1, h2, h3⟩
    · exact Or.inl h
    · exact Or.inr ⟨o, ho, h1, by rw [hf _ (by omega)]; exact h2, h3⟩
  rw [cool_step_r (by decide) (hd1 _ (fun k hk => cool1_out (Or.inl hk) (by decide))), upA_upA, upA_same,
    cool_step_r (by decide) (hd1 _ (fun k hk => by rw [cool1_out (Or.inl hk) (by decide), cool1_out (Or.inl hk) (by decide)])), upA_upA, upA_same, fX12_goesWith_61, if_pos (show (3 : Int32) ≤ nI (0 + 1 + 1 + 1) by decide), upA_same, lt_v, up_up1, upA_same, lt_v, up_up1]
  rfl
theorem goesWith_r {n a : Nat} (hG : GymOk (m 1) n) (ha : a ≤ n) (hR : RulesOk (m 1)) {j : Nat} {mc : Mm} (hS : StepsIs j mc (m 1) (ix (m 1 7))) :
    fX12_goesWith (nI a) m = some (worthS (m 1) a, up (upA m 1 (goS (m 1) a)) 0 13 (doneR (m 1) a)) := by
  obtain ⟨h0, h6, ⟨t, e, te, e1, e16, ht, he⟩, hS1, hT, hL, hM⟩ := hG
  let m3 := up m 0 13 (-1)
  have e3 : m3 1 = m 1 := up_row (by decide)
  have skip : actsS (m 1) a = false → fX12_goesWith_61 FL 0 0 m3 = some (worthS (m 1) a, up (upA m 1 (goS (m 1) a)) 0 13 (doneR (m 1) a)) := by
    intro h
    rw [cool_r (m := m3) (used := 9) (Or.inl ⟨up_at, rfl⟩), e3]
    unfold goS worthS midS usedS doneR
    rw [h, if_neg (by decide), if_neg (by decide), if_neg (by decide), if_neg (by decide), up_upA_ne (by decide)]
  unfold fX12_goesWith
  by_cases a0 : a = 0
  · subst a0
    rw [show nI 0 - 1 = -1 from by decide, lt_v]
    show lt m3 _ = _
    rw [lt_v, if_pos (by decide), skip (by unfold actsS; simp)]
  · rw [m1 (by omega), lt_v]
    show lt m3 _ = _
    have ho : a - 1 < 6 := by omega
    have hK : SetOk (m 1) (a - 1) := hS1 _ (by omega)
    rw [lt_v, if_neg (nI_pos (by omega)), its4 ho, bd_s, e3]
    by_cases hl : m 1 (8 + 5 * (a - 1) + 4) ≤ 0
    · rw [if_pos hl, skip]
      unfold actsS
      rw [decide_eq_false (fun q => Int32.not_lt.mpr hl q)]
      simp
    · rw [if_neg hl]
      have hl' := Int32.not_le.mp hl
      have mm : fX12_may (nI (a - 1)) (m 1 1) m3 = some (b2 (mayS (m 1) (a - 1) (m 1 1)), m3) := by
        have := may_r (m := m3) ho (by rw [e3]; exact hK) (t := m 1 1) (by rw [ht]; exact nI_pos (by omega))
        rw [e3] at this
        exact this
      rw [mm, bd_s]
      cases hm : mayS (m 1) (a - 1) (m 1 1)
      · rw [if_pos (show b2 false = 0 from rfl), skip (by unfold actsS; rw [hm]; simp)]
      · rw [if_neg (show ¬ b2 true = 0 by decide)]
        have w3 : fX12_will (nI (a - 1)) m3 = some (willS (m 1) (a - 1), m3) := by
          have := will_r (m := m3) ho (by rw [e3]; exact hK) (by rw [e3]; exact hR) (j := j) (mc := mc) (by rw [e3]; exact hS) (ix (m3 1 5)) 0 FL (by omega) (by
            rw [e3]; obtain ⟨⟨c, -, c8, hc⟩, -⟩ := hR; rw [hc, ix_n (by omega)]; unfold FL; omega)
          rw [e3] at this
          exact this
        rw [w3, bd_s]
        by_cases hw2 : willS (m 1) (a - 1) = 2
        · rw [if_pos hw2, skip (by unfold actsS; rw [hw2]; simp)]
        · rw [if_neg hw2, w3, bd_s]
          have hac : actsS (m 1) a = true := by
            unfold actsS
            rw [decide_eq_true (show 1 ≤ a by omega), decide_eq_true hl', hm, decide_eq_false hw2]
            rfl
          have hx : (willS (m 1) (a - 1) = 0) = (easeS (m 1) a = false) := by
            unfold easeS
            rcases willS_cases hR (a - 1) with h | h | h
            · rw [h]; exact propext ⟨fun _ => by decide, fun _ => rfl⟩
            · rw [h]; exact propext ⟨fun q => absurd q (by decide), fun q => absurd q (by decide)⟩
            · exact absurd h hw2
          have hd := doesBy_r (m := m3) (e := easeS (m 1) a) (x := willS (m 1) (a - 1)) ho (by rw [e3]; exact hK) (by rw [e3]; exact hL) hx
          rw [hd, bd_s, e3]
          let M := up (upA m3 1 (doS (m 1) (a - 1) (easeS (m 1) a))) 0 13 (nI (a - 1))
          have eM : M 1 = doS (m 1) (a - 1) (easeS (m 1) a) := (up_row (by decide)).trans upA_same
          obtain ⟨u, -, u2, hu⟩ := hK.2.2.2.1
          have emu : muS (m 1) (a - 1) = u := by unfold muS; rw [hu, ix_n (by omega)]
          obtain ⟨ma, -, ma5, hma⟩ := hK.2.1
          have ema : maS (m 1) (a - 1) = ma := by unfold maS; rw [hma, ix_n (by omega)]
          have hc := cool_r (m := M) (used := u) (x := worthDo (m 1) (a - 1) (easeS (m 1) a)) (Or.inr ⟨a - 1, ho, up_at, by
            rw [eM]; unfold doS; rw [ema, emu, pk_un (by omega), pk_un (by omega), pk_un (by omega)]; exact hu, u2⟩)
          show fX12_goesWith_61 FL _ 0 M = _
          rw [hc, eM]
          unfold goS worthS midS usedS doneR
          rw [hac, if_pos rfl, if_pos rfl, if_pos rfl, if_pos rfl, emu]
          congr 2
          funext q
          by_cases q1 : q = 1
          · subst q1; rw [upA_same, up_row (by decide), upA_same]
          · by_cases q0 : q = 0
            · subst q0
              rw [upA_ne q1]
              show upA (upA (upA m 0 (upd (m 0) 13 (-1))) 1 _) 0 (upd (upA (upA m 0 (upd (m 0) 13 (-1))) 1 _ 0) 13 (nI (a - 1))) 0 = upA (upA m 1 _) 0 (upd (upA m 1 _ 0) 13 (nI (a - 1))) 0
              rw [upA_same, upA_same, upA_ne q1, upA_ne q1, upA_same, upd_upd]
            · rw [upA_ne q1, up_row q0]
              show up (upA m3 1 _) 0 13 _ q = _
              rw [up_row q0, upA_ne q1, upA_ne q1]
              exact up_row q0
end GOR
