/-! WILL: which rule tells, in both -/
def underB (k r : Nat) : Bool := r == 0 || k == r || (r == 2 && k == 3) || (r == 4 && k == 5)
def holdsS (s : Nat → Int32) (o r : Nat) : Bool := decide (runS s o (ix (s (53 + 4 * r + 2))) (ix (s (53 + 4 * r + 3)) - ix (s (53 + 4 * r + 2))) 1 % 2 = 1)
def willF (s : Nat → Int32) (o : Nat) : Nat → Nat → Int32
  | _, 0 => 0
  | r, d + 1 => if (underB (ix (s (8 + 5 * o))) (ix (s (53 + 4 * r))) && holdsS s o r) = true then s (53 + 4 * r + 1) else willF s o (r + 1) d
def willS (s : Nat → Int32) (o : Nat) : Int32 := willF s o 0 (ix (s 5))
def RuleOk (s : Nat → Int32) (r : Nat) : Prop := Bd 0 5 (s (53 + 4 * r)) ∧ Bd 0 2 (s (53 + 4 * r + 1)) ∧ ∃ a b : Nat, a ≤ b ∧ b ≤ ix (s 7) ∧ s (53 + 4 * r + 2) = nI a ∧ s (53 + 4 * r + 3) = nI b ∧ cmpN s a (b - a) ≤ 60
def RulesOk (s : Nat → Int32) : Prop := Bd 0 8 (s 5) ∧ Bd 0 149 (s 7) ∧ ∀ r, r < ix (s 5) → RuleOk s r
def RulesIs (j : Nat) (m : Mm) (s : Nat → Int32) : Prop :=
  m (rp j 0) 0 = s 5 ∧ m (rp j 0) 8 = s 7 ∧ (∀ r, r < ix (s 5) → m (rp j 1) r = s (53 + 4 * r) ∧ m (rp j 2) r = s (53 + 4 * r + 1) ∧ m (rp j 3) r = s (53 + 4 * r + 2) ∧ m (rp j 4) r = s (53 + 4 * r + 3)) ∧ StepsIs j m s (ix (s 7))
theorem StepsIs.le {j : Nat} {m : Mm} {s : Nat → Int32} {n k : Nat} (h : StepsIs j m s n) (hk : k ≤ n) : StepsIs j m s k := fun q hq => h q (by omega)
theorem isUnder_r {k r : Nat} (k1 : 1 ≤ k) (k5 : k ≤ 5) (r5 : r ≤ 5) (m : Mm) : fX12_isUnder (nI k) (nI r) m = some (b2 (underB k r), m) := by
  rcases (show k = 1 ∨ k = 2 ∨ k = 3 ∨ k = 4 ∨ k = 5 by omega) with rfl | rfl | rfl | rfl | rfl <;>
    rcases (show r = 0 ∨ r = 1 ∨ r = 2 ∨ r = 3 ∨ r = 4 ∨ r = 5 by omega) with rfl | rfl | rfl | rfl | rfl | rfl <;> simp [fX12_isUnder, fX12_isUnder_19, nI, underB, b2]
theorem under_c : ∀ k, k < 6 → ∀ r, r < 6 → (decide ((((sIS k) >>> ((nI r) &&& 31)) &&& 1) = 1)) = underB k r := by decide +kernel
theorem will_r {m : Mm} {o : Nat} (ho : o < 6) (hK : SetOk (m 1) o) (hR : RulesOk (m 1)) {j : Nat} {mc : Mm} (hS : StepsIs j mc (m 1) (ix (m 1 7))) :
    ∀ (d r n : Nat), r + d = ix (m 1 5) → d < n → fX12_will_2 n (nI o) (nI r) m = some (willF (m 1) o r d, m) := by
  obtain ⟨⟨c, -, c8, hc⟩, ⟨st, -, st9, hst⟩, hr⟩ := hR
  have hcx : ix (m 1 5) = c := by rw [hc, ix_n (by omega)]
  have hsx : ix (m 1 7) = st := by rw [hst, ix_n (by omega)]
  rw [hcx] at hr ⊢
  obtain ⟨k, k1, k5, hk⟩ := hK.1
  intro d
  induction d with
  | zero =>
    intro r n hd hn
    obtain ⟨n, rfl⟩ : ∃ n', n = n' + 1 := ⟨n - 1, by omega⟩
    rw [fX12_will_2, hc, if_pos (nI_le (by omega) (by omega))]
    rfl
  | succ d ih =>
    intro r n hd hn
    obtain ⟨n, rfl⟩ : ∃ n', n = n' + 1 := ⟨n - 1, by omega⟩
    obtain ⟨⟨u, -, u5, hu⟩, -, a, b, ab, bs, ha, hb, hcn⟩ := hr r (by omega)
    rw [hsx] at bs
    rw [fX12_will_2, hc, if_neg (nI_ge (by omega) (by omega)), its0 ho, bd_s, e_rule, gx_n (by omega) (by decide), ix_n (by omega), hk, hu, isUnder_r k1 k5 u5, bd_s, willF, hk, hu, ix_n (by omega), ix_n (by omega)]
    have go := ih (r + 1) n (by omega) (by omega)
    cases hun : underB k u
    · rw [if_pos (show b2 false = 0 from rfl), lt_v, p1, go]
      rfl
    · rw [if_neg (show ¬ b2 true = 0 by decide)]
      have hh := holds_r (m := m) (s := m 1) (o := o) (r := r) (b := b) rfl ho hK (by omega) hb (by omega) (hS.le (by omega)) (b - a) FL a 1 0 (by omega) (by unfold FL; omega) (by decide) (by omega)
      have h1 : (1 : Int64) = lN 1 := rfl
      unfold fX12_holds
      rw [e_rule, p2, gx_n (by omega) (by decide), ix_n (by omega), ha, lt_v, h1, hh, bd_s]
      have hhs : holdsS (m 1) o r = decide (runS (m 1) o a (b - a) 1 % 2 = 1) := by unfold holdsS; rw [ha, hb, ix_n (by omega), ix_n (by omega)]
      rw [← hhs]
      cases holdsS (m 1) o r
      · rw [if_pos (show b2 false = 0 from rfl), lt_v, p1, go]
        rfl
      · rw [if_neg (show ¬ b2 true = 0 by decide), p1, gx_n (by omega) (by decide), ix_n (by omega)]
        rfl
theorem tell_c {m : Mm} {j fi o : Nat} {s : Nat → Int32} (hK : SetOk s o) (hR : RulesOk s) (hI : RulesIs j m s) (hF : ∀ f, f ≤ 4 → m (gp fi 11) f = factS s o f) :
    ∀ (d r n : Nat), r + d = ix (s 5) → d < n → fX8_tell_2 j fi n (s (8 + 5 * o)) (nI r) m = some (willF s o r d, m) := by
  obtain ⟨⟨c, -, c8, hc⟩, ⟨st, -, st9, hst⟩, hr⟩ := hR
  have hcx : ix (s 5) = c := by rw [hc, ix_n (by omega)]
  have hsx : ix (s 7) = st := by rw [hst, ix_n (by omega)]
  obtain ⟨i0, i1, i2, i3⟩ := hI
  rw [hcx] at hr i2 ⊢
  obtain ⟨k, k1, k5, hk⟩ := hK.1
  intro d
  induction d with
  | zero =>
    intro r n hd hn
    obtain ⟨n, rfl⟩ : ∃ n', n = n' + 1 := ⟨n - 1, by omega⟩
    rw [fX8_tell_2, i0, hc, if_pos (nI_le (by omega) (by omega))]
    rfl
  | succ d ih =>
    intro r n hd hn
    obtain ⟨n, rfl⟩ : ∃ n', n = n' + 1 := ⟨n - 1, by omega⟩
    obtain ⟨⟨u, -, u5, hu⟩, -, a, b, ab, bs, ha, hb, hcn⟩ := hr r (by omega)
    obtain ⟨q1, q2, q3, q4⟩ := i2 r (by omega)
    rw [hsx] at bs
    have go := ih (r + 1) n (by omega) (by omega)
    rw [fX8_tell_2, i0, hc, if_neg (nI_ge (by omega) (by omega)), hk, gx_n (by omega) (by decide), gx_n (by omega) (by decide), ix_n (by omega), ix_n (by omega), q1, hu, willF, hk, hu, ix_n (by omega), ix_n (by omega)]
    rw [hk] at go
    have hun := under_c k (by omega) u (by omega)
    cases hb9 : underB k u
    · rw [hb9] at hun
      rw [if_neg (of_decide_eq_false hun), lt_v, p1, go]
      rfl
    · rw [hb9] at hun
      rw [if_pos (of_decide_eq_true hun)]
      have hh := holds_c (j := j) (fi := fi) (m := m) (s := s) (o := o) (r := r) (b := b) (by omega) (q4.trans hb) (by omega) hF (i3.le (by omega)) (b - a) FL a 1 0 (by omega) (by unfold FL; omega) (by decide) (by omega)
      have h1 : (1 : Int64) = lN 1 := rfl
      unfold fX8_holds
      rw [gx_n (by omega) (by decide), ix_n (by omega), q3, ha, lt_v, h1, hh, bd_s]
      have hhs : holdsS s o r = decide (runS s o a (b - a) 1 % 2 = 1) := by unfold holdsS; rw [ha, hb, ix_n (by omega), ix_n (by omega)]
      rw [← hhs]
      cases holdsS s o r
      · rw [if_pos (show b2 false = 0 from rfl), lt_v, p1, go]
        rfl
      · rw [if_neg (show ¬ b2 true = 0 by decide), q2]
        rfl
/-! what keeps the gym -/
theorem GymIs.of_eq {i : Nat} {m m' : Mm} {s : Nat → Int32} (h : GymIs i m s) (e : ∀ k, k < 13 → k ≠ 11 → k ≠ 12 → m' (gp i k) = m (gp i k)) : GymIs i m' s := by
  obtain ⟨⟨a, b, c, d, f⟩, h2, h3, h4, h5⟩ := h
  have e0 := e 0 (by decide) (by decide) (by decide)
  refine ⟨⟨by rw [e0]; exact a, by rw [e0]; exact b, by rw [e0]; exact c, by rw [e0]; exact d, by rw [e0]; exact f⟩, fun w hw o ho => ?_, fun u hu => ?_, fun k hk => ?_, fun k hk => ?_⟩
  · rw [e (2 + w) (by omega) (by omega) (by omega)]; exact h2 w hw o ho
  · rw [e 10 (by decide) (by decide) (by decide)]; exact h3 u hu
  · rw [e 8 (by decide) (by decide) (by decide)]; exact h4 k hk
  · rw [e 9 (by decide) (by decide) (by decide)]; exact h5 k hk
theorem GymIs.fr {i : Nat} {m m' : Mm} {s : Nat → Int32} {P : Nat → Prop} (h : GymIs i m s) (f : Fr P m m') (hp : ∀ k, k < 13 → k ≠ 11 → k ≠ 12 → ¬ P (gp i k)) : GymIs i m' s := h.of_eq fun k a b c => f _ (hp k a b c)
theorem rp_gp {i j k k' : Nat} (hj : j < 3) (hk : k < 10) : rp j k ≠ gp i k' := by unfold rp gp; omega
theorem RulesIs.of_eq {j : Nat} {m m' : Mm} {s : Nat → Int32} (h : RulesIs j m s) (e : ∀ k, k < 8 → m' (rp j k) = m (rp j k)) : RulesIs j m' s := by
  obtain ⟨a, b, c, d⟩ := h
  refine ⟨by rw [e 0 (by decide)]; exact a, by rw [e 0 (by decide)]; exact b, fun r hr => ?_, fun k hk => ?_⟩
  · rw [e 1 (by decide), e 2 (by decide), e 3 (by decide), e 4 (by decide)]; exact c r hr
  · rw [e 5 (by decide), e 6 (by decide), e 7 (by decide)]; exact d k hk
theorem gymP_rp {i j k : Nat} (hj : j < 3) (hk : k < 10) : ¬ gymP i (rp j k) := by unfold gymP rp gp; omega
theorem RulesIs.fr {i j : Nat} {m m' : Mm} {s : Nat → Int32} (h : RulesIs j m s) (hj : j < 3) (f : Fr (gymP i) m m') : RulesIs j m' s := h.of_eq fun k hk => f _ (gymP_rp hj (by omega))
theorem will_c {i o : Nat} {m : Mm} {s : Nat → Int32} (hG : GymIs i m s) (ho : o < 6) (hK : SetOk s o) (hR : RulesOk s) (hi : i < 8) (hI : RulesIs (rI i) m s) :
    ∃ m', fX1_will i (nI o) m = some (willS s o, m') ∧ GymIs i m' s ∧ Fr (gymP i) m m' ∧ m' (gp i 0) = m (gp i 0) := by
  obtain ⟨u, -, u2, hu⟩ := hK.2.2.2.1
  have P11 : gymP i (gp i 11) := gymP_in (by decide)
  have n4 : gp i 4 ≠ gp i 11 := gp_ne (by decide)
  have n5 : gp i 5 ≠ gp i 11 := gp_ne (by decide)
  have n6 : gp i 6 ≠ gp i 11 := gp_ne (by decide)
  have n10 : gp i 10 ≠ gp i 11 := gp_ne (by decide)
  have n2 : gp i 2 ≠ gp i 11 := gp_ne (by decide)
  let m1 := up m (gp i 11) 0 (s 1)
  let m2 := up m1 (gp i 11) 1 (s (8 + 5 * o + 2))
  let m3 := up m2 (gp i 11) 2 (s (38 + u))
  let m4 := up m3 (gp i 11) 3 (s (8 + 5 * o + 4))
  let m5 := up m4 (gp i 11) 4 (nI o)
  have F5 : ∀ q, q ≠ gp i 11 → m5 q = m q := fun q h => by
    show up (up (up (up (up m _ _ _) _ _ _) _ _ _) _ _ _) _ _ _ q = _
    rw [up_row h, up_row h, up_row h, up_row h, up_row h]
  have rj : rI i < 3 := by unfold rI; split <;> omega
  have G5 : GymIs i m5 s := hG.of_eq (fun k _ k1 _ => F5 _ (gp_ne k1))
  have R5 : RulesIs (rI i) m5 s := hI.of_eq (fun k hk => F5 _ (rp_gp rj (by omega)))
  have hF : ∀ f, f ≤ 4 → m5 (gp i 11) f = factS s o f := by
    intro f hf
    rcases (show f = 0 ∨ f = 1 ∨ f = 2 ∨ f = 3 ∨ f = 4 by omega) with rfl | rfl | rfl | rfl | rfl
    · simp [m5, m4, m3, m2, m1, up_app, factS]
    · simp [m5, m4, m3, m2, m1, up_app, factS]
    · simp [m5, m4, m3, m2, m1, up_app, factS, hu, ix_n (show u < 2 ^ 31 by omega)]
    · simp [m5, m4, m3, m2, m1, up_app, factS]
    · simp [m5, m4, m3, m2, m1, up_app, factS]
  refine ⟨m5, ?_, G5, fun q hq => F5 q (fun e => hq (by rw [e]; exact P11)), F5 _ (gp_ne (by decide))⟩
  unfold fX1_will
  have c8 : ix (s 5) < FL := by
    obtain ⟨⟨c, -, c8, hc⟩, -⟩ := hR
    rw [hc, ix_n (by omega)]; unfold FL; omega
  have ht := tell_c hK hR R5 hF (ix (s 5)) 0 FL (by omega) c8
  rw [lt_v, gx_n ho (by decide), hG.1.2.1, up_row n4, ix_n (by omega), g_wt hG ho]
  show lt m2 _ = _
  rw [lt_v, show m2 (gp i 5) o = s (8 + 5 * o + 3) by show up _ _ _ _ _ _ = _; rw [up_row n5]; show up _ _ _ _ _ _ = _; rw [up_row n5]; exact g_mus hG ho, hu, gx_n (by omega) (by decide), ix_n (by omega),
    show m2 (gp i 10) u = s (38 + u) by show up _ _ _ _ _ _ = _; rw [up_row n10]; show up _ _ _ _ _ _ = _; rw [up_row n10]; exact hG.2.2.1 u (by omega)]
  show lt m3 _ = _
  rw [lt_v, show m3 (gp i 6) o = s (8 + 5 * o + 4) by show up _ _ _ _ _ _ = _; rw [up_row n6]; show up _ _ _ _ _ _ = _; rw [up_row n6]; show up _ _ _ _ _ _ = _; rw [up_row n6]; exact g_left hG ho]
  show lt m4 _ = _
  rw [lt_v]
  show lt m5 _ = _
  rw [lt_v, g_kind G5 ho]
  show bd (fX8_tell_2 (rI i) i FL (s (8 + 5 * o)) (nI 0) m5) _ = _
  rw [ht, bd_s]
  rfl
