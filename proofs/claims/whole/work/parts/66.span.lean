/-! all the men looked at, by their number x = 16 a + 4 (p - 1) + (n - 1) -/
abbrev wrX (s : Nat → Int32) (R x : Nat) : Nat × Int32 := wrF s (x / 16) (x / 4 % 4 + 1) (x % 4 + 1) R 0 0 6
theorem nI_nm1 {r : Nat} (h : r < 2 ^ 31) : ¬ nI r = -1 := fun e => by
  have := nI_pos (n := r) h
  rw [e] at this
  exact this (by decide)
theorem allS_1 {s : Nat → Int32} {a p n r d : Nat} (hr : r < 2 ^ 31) : allS s (-1) a p n r (d + 1) = (fitS s a p n r && allS s (-1) a p n (r + 1) d) := by
  rw [allS, decide_eq_false (nI_nm1 hr), Bool.false_or]
theorem wr_all {s : Nat → Int32} {a p n : Nat} : ∀ (d r w : Nat) (h : Int32), r + d ≤ 6 → allS s (-1) a p n r d = true → wrF s a p n d r w h = (w, h) := by
  intro d
  induction d with
  | zero => intro r w h _ _; rfl
  | succ d ih =>
    intro r w h hr ha
    rw [allS_1 (by omega), Bool.and_eq_true] at ha
    rw [wrF, if_pos ha.1]
    exact ih (r + 1) w h (by omega) ha.2
theorem wr_ge {s : Nat → Int32} {a p n : Nat} : ∀ (d r w : Nat) (h : Int32), w ≤ (wrF s a p n d r w h).1 := by
  intro d
  induction d with
  | zero => intro r w h; exact Nat.le_refl _
  | succ d ih =>
    intro r w h
    rw [wrF]
    split
    · exact ih _ _ _
    · exact Nat.le_trans (Nat.le_succ w) (ih _ _ _)
theorem wr_eq {s : Nat → Int32} {a p n : Nat} : ∀ (d r w : Nat) (h : Int32), r + d ≤ 6 → (wrF s a p n d r w h).1 = w → allS s (-1) a p n r d = true := by
  intro d
  induction d with
  | zero => intro r w h _ _; rfl
  | succ d ih =>
    intro r w h hr hw
    rw [wrF] at hw
    by_cases c : fitS s a p n r = true
    · rw [if_pos c] at hw
      rw [allS_1 (by omega), c, Bool.true_and]
      exact ih (r + 1) w h (by omega) hw
    · rw [if_neg c] at hw
      have := wr_ge (s := s) (a := a) (p := p) (n := n) d (r + 1) (w + 1) (nI r)
      omega
theorem all_but {s : Nat → Int32} {a p n : Nat} {k : Int32} : ∀ (d r : Nat), r + d ≤ 6 → allS s (-1) a p n r d = true → allS s k a p n r d = true := by
  intro d
  induction d with
  | zero => intro r _ _; rfl
  | succ d ih =>
    intro r hr ha
    rw [allS_1 (by omega), Bool.and_eq_true] at ha
    rw [allS, ha.1, Bool.or_true, Bool.true_and]
    exact ih (r + 1) (by omega) ha.2
/-- just one is wrong: it is told which, and all fit but that -/
theorem wr_one {s : Nat → Int32} {a p n : Nat} : ∀ (d r : Nat) (h : Int32), r + d ≤ 6 → (wrF s a p n d r 0 h).1 = 1 → ∃ j, r ≤ j ∧ j < r + d ∧ (wrF s a p n d r 0 h).2 = nI j ∧ allS s (nI j) a p n r d = true := by
  intro d
  induction d with
  | zero => intro r h _ hw; exact absurd (show (0 : Nat) = 1 from hw) (by decide)
  | succ d ih =>
    intro r h hr hw
    rw [wrF] at hw ⊢
    by_cases c : fitS s a p n r = true
    · rw [if_pos c] at hw ⊢
      obtain ⟨j, j1, j2, j3, j4⟩ := ih (r + 1) h (by omega) hw
      exact ⟨j, by omega, by omega, j3, by rw [allS, c, Bool.or_true, Bool.true_and]; exact j4⟩
    · rw [if_neg c] at hw ⊢
      have ha := wr_eq d (r + 1) 1 (nI r) (by omega) hw
      refine ⟨r, by omega, by omega, ?_, ?_⟩
      · rw [wr_all d (r + 1) _ _ (by omega) ha]
      · rw [allS, decide_eq_true rfl, Bool.true_or, Bool.true_and]
        exact all_but d (r + 1) (by omega) ha
/-- all fit but one: all fit, or just that one is wrong -/
theorem wr_but {s : Nat → Int32} {a p n j : Nat} : ∀ (d r : Nat) (h : Int32), r + d ≤ 6 → j < 6 → allS s (nI j) a p n r d = true → allS s (-1) a p n r d = true ∨ (r ≤ j ∧ wrF s a p n d r 0 h = (1, nI j)) := by
  intro d
  induction d with
  | zero => intro r h _ _ _; exact Or.inl rfl
  | succ d ih =>
    intro r h hr hj ha
    rw [allS, Bool.and_eq_true] at ha
    by_cases c : fitS s a p n r = true
    · rcases ih (r + 1) h (by omega) hj ha.2 with e | ⟨e1, e2⟩
      · exact Or.inl (by rw [allS_1 (by omega), c, e]; rfl)
      · exact Or.inr ⟨by omega, by rw [wrF, if_pos c]; exact e2⟩
    · have c' : fitS s a p n r = false := by cases h : fitS s a p n r with
        | false => rfl
        | true => exact absurd h c
      have e : nI r = nI j := by
        have := ha.1
        rw [c', Bool.or_false, decide_eq_true_eq] at this
        exact this
      have ej : r = j := (nI_eq (by omega) (by omega)).mp e
      subst ej
      rcases ih (r + 1) (nI r) (by omega) hj ha.2 with e | ⟨e1, e2⟩
      · exact Or.inr ⟨Nat.le_refl _, by rw [wrF, if_neg c]; exact wr_all d (r + 1) _ _ (by omega) e⟩
      · omega
section LOOK
variable {i R : Nat} {s : Nat → Int32} {m0 m : Mm}
theorem fitX_R (h6 : s 6 = nI R) (hR : R ≤ 6) {k : Int32} {x : Nat} : fitX s k x = allS s k (x / 16) (x / 4 % 4 + 1) (x % 4 + 1) 0 R := by
  unfold fitX
  rw [h6, ix_n (by omega)]
theorem wrX_0 (h6 : s 6 = nI R) (hR : R ≤ 6) {x : Nat} : (wrX s R x).1 = 0 ↔ fitX s (-1) x = true := by
  rw [fitX_R h6 hR]
  refine ⟨fun h => wr_eq R 0 0 6 (by omega) h, fun h => ?_⟩
  show (wrF _ _ _ _ _ _ _ _).1 = 0
  rw [wr_all R 0 0 6 (by omega) h]
def LI (i R : Nat) (s : Nat → Int32) (m0 : Mm) (x : Nat) (m : Mm) : Prop :=
  (∀ q, q ≠ mp i 0 → m q = m0 q) ∧ (∀ k, (k < 4 ∨ 8 < k) → m (mp i 0) k = m0 (mp i 0) k) ∧
  ∃ (c : Nat) (f : Int32) (L : Nat), c ≤ x ∧ ffF s (-1) (256 - x) x c f = ffF s (-1) 256 0 0 (-3) ∧ m (mp i 0) 4 = nI c ∧
    (0 < c → ∃ y, y < 256 ∧ f = nI y ∧ m (mp i 0) 5 = nI (y / 16) ∧ m (mp i 0) 6 = nI (y / 4 % 4 + 1) ∧ m (mp i 0) 7 = nI (y % 4 + 1)) ∧
    m (mp i 0) 8 = nI L ∧ L ≤ 6 ∧ (L < 6 → L < R ∧ ∃ y, y < 256 ∧ (wrX s R y).1 = 1 ∧ (wrX s R y).2 = nI L) ∧ (∀ y, y < x → ∀ j, j < 6 → wrX s R y = (1, nI j) → L ≤ j)
theorem li_step (hM : MenIs i m0 s) (h6 : s 6 = nI R) (hR : R ≤ 6) {x : Nat} (hx : x < 256) (h : LI i R s m0 x m) :
    ∃ m', fX4_lookAt i (nI (x / 16)) (nI (x / 4 % 4 + 1)) (nI (x % 4 + 1)) m = some (0, m') ∧ LI i R s m0 (x + 1) m' := by
  obtain ⟨f1, f2, c, f, L, hc, hff, e4, h5, e8, hL, hL6, hall⟩ := h
  have hM' : MenIs i m s := by
    obtain ⟨a, b⟩ := hM
    refine ⟨by rw [f2 3 (by omega)]; exact a, fun r hr => ?_⟩
    rw [f1 (mp i 1) (by unfold mp; omega), f1 (mp i 2) (by unfold mp; omega), f1 (mp i 3) (by unfold mp; omega)]
    exact b r hr
  obtain ⟨m', q, g1, g2, g4, g5, g6, g7, g8⟩ := lookAt_c (a := x / 16) (p := x / 4 % 4 + 1) (n := x % 4 + 1) hM' h6 hR (by omega) (by omega) (by omega) e4 (by omega)
  refine ⟨m', q, fun q hq => (g1 q hq).trans (f1 q hq), fun k hk => (g2 k hk).trans (f2 k hk), ?_⟩
  have hd : 256 - x = (255 - x) + 1 := by omega
  have hd2 : 256 - (x + 1) = 255 - x := by omega
  rw [hd, ffF] at hff
  have w0 := wrX_0 (x := x) h6 hR
  by_cases w : (wrX s R x).1 = 0
  · rw [if_pos (w0.mp w)] at hff
    have w1 : ¬ (wrX s R x).1 = 1 := by omega
    refine ⟨c + 1, if c = 0 then nI x else f, L, by omega, by rw [hd2]; exact hff, by rw [g4, if_pos w], fun _ => ?_, by rw [g8, if_neg w1]; exact e8, hL, hL6, fun y hy j hj hw => ?_⟩
    · by_cases c0 : c = 0
      · exact ⟨x, hx, if_pos c0, by rw [g5, if_pos ⟨w, c0⟩], by rw [g6, if_pos ⟨w, c0⟩], by rw [g7, if_pos ⟨w, c0⟩]⟩
      · obtain ⟨y, y1, y2, y3, y4, y5⟩ := h5 (by omega)
        have nn : ¬ ((wrX s R x).1 = 0 ∧ c = 0) := fun z => c0 z.2
        exact ⟨y, y1, by rw [if_neg c0]; exact y2, by rw [g5, if_neg nn]; exact y3, by rw [g6, if_neg nn]; exact y4, by rw [g7, if_neg nn]; exact y5⟩
    · by_cases ey : y = x
      · subst ey
        rw [hw] at w
        exact absurd (show (1 : Nat) = 0 from w) (by decide)
      · exact hall y (by omega) j hj hw
  · have wf : ¬ fitX s (-1) x = true := fun z => w (w0.mpr z)
    rw [if_neg wf] at hff
    have nn : ¬ ((wrX s R x).1 = 0 ∧ c = 0) := fun z => w z.1
    have k5 : 0 < c → ∃ y, y < 256 ∧ f = nI y ∧ m' (mp i 0) 5 = nI (y / 16) ∧ m' (mp i 0) 6 = nI (y / 4 % 4 + 1) ∧ m' (mp i 0) 7 = nI (y % 4 + 1) := fun z => by
      obtain ⟨y, y1, y2, y3, y4, y5⟩ := h5 z
      exact ⟨y, y1, y2, by rw [g5, if_neg nn]; exact y3, by rw [g6, if_neg nn]; exact y4, by rw [g7, if_neg nn]; exact y5⟩
    by_cases w1 : (wrX s R x).1 = 1
    · obtain ⟨j, -, j2, j3, -⟩ := wr_one R 0 6 (by omega) w1
      have hj6 : j < 6 := by omega
      by_cases cj : j < L
      · refine ⟨c, f, j, by omega, by rw [hd2]; exact hff, by rw [g4, if_neg w], k5, ?_, by omega, fun _ => ⟨by omega, x, hx, w1, j3⟩, fun y hy j' hj' hw => ?_⟩
        · rw [g8, if_pos w1]
          have j3' : (wrF s (x / 16) (x / 4 % 4 + 1) (x % 4 + 1) R 0 0 6).2 = nI j := j3
          rw [j3', e8, if_pos (nI_lt cj (by omega))]
        · by_cases ey : y = x
          · subst ey
            have : nI j' = nI j := by rw [← j3]; exact (congrArg Prod.snd hw).symm
            exact Nat.le_of_eq ((nI_eq (by omega) (by omega)).mp this).symm
          · have := hall y (by omega) j' hj' hw
            omega
      · refine ⟨c, f, L, by omega, by rw [hd2]; exact hff, by rw [g4, if_neg w], k5, ?_, hL, hL6, fun y hy j' hj' hw => ?_⟩
        · rw [g8, if_pos w1]
          have j3' : (wrF s (x / 16) (x / 4 % 4 + 1) (x % 4 + 1) R 0 0 6).2 = nI j := j3
          rw [j3', e8, if_neg (nI_nlt (by omega) (by omega))]
        · by_cases ey : y = x
          · subst ey
            have : nI j' = nI j := by rw [← j3]; exact (congrArg Prod.snd hw).symm
            have := (nI_eq (by omega) (by omega)).mp this
            omega
          · exact hall y (by omega) j' hj' hw
    · refine ⟨c, f, L, by omega, by rw [hd2]; exact hff, by rw [g4, if_neg w], k5, by rw [g8, if_neg w1]; exact e8, hL, hL6, fun y hy j' hj' hw => ?_⟩
      by_cases ey : y = x
      · subst ey
        rw [hw] at w1
        exact absurd rfl w1
      · exact hall y (by omega) j' hj' hw
theorem look28_c (hM : MenIs i m0 s) (h6 : s 6 = nI R) (hR : R ≤ 6) {K : Int32 → Int32 → Mm → Option (Int32 × Mm)} {a p : Nat} (ha : a < 16) (h1 : 1 ≤ p) (hp : p ≤ 4) :
    ∀ (d n q : Nat) (m : Mm), n + d = 5 → 1 ≤ n → d < q → LI i R s m0 (16 * a + 4 * (p - 1) + (n - 1)) m → ∃ m', fX4_look_28 K i q (nI a) (nI p) (nI n) m = K (nI a) (nI (p + 1)) m' ∧ LI i R s m0 (16 * a + 4 * p) m' := by
  intro d
  induction d with
  | zero =>
    intro n q m hd hn hq h
    obtain ⟨q, rfl⟩ : ∃ z, q = z + 1 := ⟨q - 1, by omega⟩
    rw [fX4_look_28, if_pos (show (4 : Int32) < nI n from nI_lt (a := 4) (by omega) (by omega)), lt_v, p1]
    exact ⟨m, rfl, by rw [show 16 * a + 4 * p = 16 * a + 4 * (p - 1) + (n - 1) by omega]; exact h⟩
  | succ d ih =>
    intro n q m hd hn hq h
    obtain ⟨q, rfl⟩ : ∃ z, q = z + 1 := ⟨q - 1, by omega⟩
    rw [fX4_look_28, if_neg (show ¬ (4 : Int32) < nI n from nI_nlt (a := 4) (by omega) (by decide))]
    obtain ⟨m', q1, h'⟩ := li_step hM h6 hR (by omega) h
    rw [show (16 * a + 4 * (p - 1) + (n - 1)) / 16 = a by omega, show (16 * a + 4 * (p - 1) + (n - 1)) / 4 % 4 + 1 = p by omega, show (16 * a + 4 * (p - 1) + (n - 1)) % 4 + 1 = n by omega] at q1
    rw [q1, bd_s, lt_v, p1]
    exact ih (n + 1) q m' (by omega) (by omega) (by omega) (by rw [show 16 * a + 4 * (p - 1) + (n + 1 - 1) = 16 * a + 4 * (p - 1) + (n - 1) + 1 by omega]; exact h')
theorem look21_c (hM : MenIs i m0 s) (h6 : s 6 = nI R) (hR : R ≤ 6) {K : Int32 → Mm → Option (Int32 × Mm)} {a : Nat} (ha : a < 16) :
    ∀ (d p q : Nat) (m : Mm), p + d = 5 → 1 ≤ p → d < q → LI i R s m0 (16 * a + 4 * (p - 1)) m → ∃ m', fX4_look_21 K i q (nI a) (nI p) m = K (nI (a + 1)) m' ∧ LI i R s m0 (16 * (a + 1)) m' := by
  intro d
  induction d with
  | zero =>
    intro p q m hd hn hq h
    obtain ⟨q, rfl⟩ : ∃ z, q = z + 1 := ⟨q - 1, by omega⟩
    rw [fX4_look_21, if_pos (show (4 : Int32) < nI p from nI_lt (a := 4) (by omega) (by omega)), lt_v, p1]
    exact ⟨m, rfl, by rw [show 16 * (a + 1) = 16 * a + 4 * (p - 1) by omega]; exact h⟩
  | succ d ih =>
    intro p q m hd hn hq h
    obtain ⟨q, rfl⟩ : ∃ z, q = z + 1 := ⟨q - 1, by omega⟩
    rw [fX4_look_21, if_neg (show ¬ (4 : Int32) < nI p from nI_nlt (a := 4) (by omega) (by decide))]
    obtain ⟨m', q1, h'⟩ := look28_c hM h6 hR (K := fun x1 x2 m => fX4_look_21 K i q x1 x2 m) (a := a) (p := p) ha hn (by omega) 4 1 FL m (by omega) (by omega) (by unfold FL; omega) (by rw [show 16 * a + 4 * (p - 1) + (1 - 1) = 16 * a + 4 * (p - 1) by omega]; exact h)
    have q1' : fX4_look_28 (fun x1 x2 m => fX4_look_21 K i q x1 x2 m) i FL (nI a) (nI p) 1 m = fX4_look_21 K i q (nI a) (nI (p + 1)) m' := q1
    rw [q1']
    exact ih (p + 1) q m' (by omega) (by omega) (by omega) (by rw [show 16 * a + 4 * (p + 1 - 1) = 16 * a + 4 * p by omega]; exact h')
theorem look13_c (hM : MenIs i m0 s) (h6 : s 6 = nI R) (hR : R ≤ 6) :
    ∀ (d a q : Nat) (m : Mm), a + d = 16 → d < q → LI i R s m0 (16 * a) m → ∃ m', fX4_look_13 i q (nI a) m = some (0, m') ∧ LI i R s m0 256 m' := by
  intro d
  induction d with
  | zero =>
    intro a q m hd hq h
    obtain ⟨q, rfl⟩ : ∃ z, q = z + 1 := ⟨q - 1, by omega⟩
    rw [fX4_look_13, if_pos (show (16 : Int32) ≤ nI a from nI_le (a := 16) (by omega) (by omega))]
    exact ⟨m, rfl, by rw [show 256 = 16 * a by omega]; exact h⟩
  | succ d ih =>
    intro a q m hd hq h
    obtain ⟨q, rfl⟩ : ∃ z, q = z + 1 := ⟨q - 1, by omega⟩
    rw [fX4_look_13, if_neg (show ¬ (16 : Int32) ≤ nI a from nI_ge (b := 16) (by omega) (by decide))]
    obtain ⟨m', q1, h'⟩ := look21_c hM h6 hR (K := fun x1 m => fX4_look_13 i q x1 m) (a := a) (by omega) 4 1 FL m (by omega) (by omega) (by unfold FL; omega) (by rw [show 16 * a + 4 * (1 - 1) = 16 * a by omega]; exact h)
    have q1' : fX4_look_21 (fun x1 m => fX4_look_13 i q x1 m) i FL (nI a) 1 m = fX4_look_13 i q (nI (a + 1)) m' := q1
    rw [q1']
    exact ih (a + 1) q m' (by omega) (by omega) h'
/-- all were looked at -/
theorem look_c (hM : MenIs i m s) (h6 : s 6 = nI R) (hR : R ≤ 6) : ∃ m', fX4_look i m = some (0, m') ∧ (∀ q, q ≠ mp i 0 → m' q = m q) ∧ (∀ k, (k < 4 ∨ 8 < k) → m' (mp i 0) k = m (mp i 0) k) ∧
    m' (mp i 0) 4 = nI (ffF s (-1) 256 0 0 (-3)).1 ∧ (ffF s (-1) 256 0 0 (-3)).1 ≤ 256 ∧
    (0 < (ffF s (-1) 256 0 0 (-3)).1 → ∃ y, y < 256 ∧ (ffF s (-1) 256 0 0 (-3)).2 = nI y ∧ m' (mp i 0) 5 = nI (y / 16) ∧ m' (mp i 0) 6 = nI (y / 4 % 4 + 1) ∧ m' (mp i 0) 7 = nI (y % 4 + 1)) ∧
    ∃ L, m' (mp i 0) 8 = nI L ∧ L ≤ 6 ∧ (L < 6 → L < R ∧ ∃ y, y < 256 ∧ (wrX s R y).1 = 1 ∧ (wrX s R y).2 = nI L) ∧ (∀ y, y < 256 → ∀ j, j < 6 → wrX s R y = (1, nI j) → L ≤ j) := by
  unfold fX4_look
  rw [lt_v, lt_v]
  obtain ⟨m', q, f1, f2, c, f, L, hc, hff, e4, h5, e8, hL, hL6, hall⟩ := look13_c (m0 := m) hM h6 hR 16 0 FL (up (up m (mp i 0) 4 0) (mp i 0) 8 6) (by omega) (by unfold FL; omega)
    ⟨fun q hq => (up_row hq).trans (up_row hq), fun k hk => (up_ne (Or.inr (by omega))).trans (up_ne (Or.inr (by omega))), 0, -3, 6, Nat.le_refl _, rfl, by rw [up_ne (Or.inr (by decide)), up_at]; rfl, fun z => absurd z (by decide), up_at, Nat.le_refl _, fun z => absurd z (by decide), fun y hy => by omega⟩
  have e : (c, f) = ffF s (-1) 256 0 0 (-3) := hff
  rw [← e]
  exact ⟨m', q, f1, f2, e4, hc, h5, L, e8, hL, hL6, hall⟩
end LOOK
