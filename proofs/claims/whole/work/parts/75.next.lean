/-! the reference's tokens -/
def kdN (b : Nat → Nat) (N s : Nat) : Nat := if N ≤ s then 0 else if 97 ≤ b s ∧ b s ≤ 122 then 1 else if 48 ≤ b s ∧ b s ≤ 57 then 2 else 3
theorem words_1 : ∀ w, w < 18 → ∀ v, v < 18 → wlen w = wlen v → (∀ j, j < wlen w → wchr (8 * w + j) = wchr (8 * v + j)) → w = v := by decide +kernel
theorem wrd_of {b : Nat → Nat} {s e w : Nat} (hw : w < 18) (h : IsW b s e w) : ∀ d v, v + d = 18 → v ≤ w → wrd b s e d v = nI w := by
  intro d
  induction d with
  | zero => intro v hd hv; omega
  | succ d ih =>
    intro v hd hv
    rw [wrd]
    by_cases c : isWB b s e v = true
    · rw [if_pos c]
      obtain ⟨h1, h2⟩ := h
      obtain ⟨k1, k2⟩ := isWB_iff.mp c
      rw [words_1 v (by omega) w hw (by omega) (fun j hj => by rw [← k2 j hj, h2 j (by omega)])]
    · rw [if_neg c]
      refine ih (v + 1) (by omega) ?_
      by_cases e : v = w
      · subst e; exact absurd (isWB_iff.mpr h) c
      · omega
theorem wrd_no {b : Nat → Nat} {s e : Nat} (h : ∀ w, w < 18 → ¬ IsW b s e w) : ∀ d v, v + d = 18 → wrd b s e d v = -2 := by
  intro d
  induction d with
  | zero => intro v _; rfl
  | succ d ih =>
    intro v hd
    rw [wrd, if_neg (fun z => h v (by omega) (isWB_iff.mp z))]
    exact ih (v + 1) (by omega)
theorem word_cases (b : Nat → Nat) (s e : Nat) : (∃ w, w < 18 ∧ IsW b s e w ∧ wordV b s e = nI w) ∨ ((∀ w, w < 18 → ¬ IsW b s e w) ∧ wordV b s e = -2) := by
  by_cases c : ∃ w, w < 18 ∧ IsW b s e w
  · obtain ⟨w, w1, w2⟩ := c
    exact Or.inl ⟨w, w1, w2, wrd_of w1 w2 18 0 (by omega) (Nat.zero_le _)⟩
  · have h : ∀ w, w < 18 → ¬ IsW b s e w := fun w w1 w2 => c ⟨w, w1, w2⟩
    exact Or.inr ⟨h, wrd_no h 18 0 (by omega)⟩
def valR (b : Nat → Nat) : Nat → Nat → Int32 → Int32
  | 0, _, x => x
  | d + 1, p, x => if x ≤ 9999 then valR b d (p + 1) (10 * x + nI (b p) - 48) else valR b d (p + 1) x
theorem num_small {b : Nat → Nat} : ∀ (d p k acc : Nat), acc < 10 ^ k → k + d ≤ 4 → (∀ q, p ≤ q → q < p + d → Dgt b q) → ∃ r, r < 10 ^ (k + d) ∧ numI b d p (nI acc) = nI r ∧ valR b d p (nI acc) = nI r := by
  intro d
  induction d with
  | zero => intro p k acc h _ _; exact ⟨acc, h, rfl, rfl⟩
  | succ d ih =>
    intro p k acc h hk hD
    have hp := hD p (Nat.le_refl _) (by omega)
    unfold Dgt at hp
    have h3 : 10 ^ k ≤ 10 ^ 3 := Nat.pow_le_pow_right (by decide) (by omega)
    have h1 : 10 ^ (k + 1) = 10 * 10 ^ k := by rw [Nat.pow_succ, Nat.mul_comm]
    obtain ⟨r, r1, r2, r3⟩ := ih (p + 1) (k + 1) (10 * acc + (b p - 48)) (by omega) (by omega) (fun q h1 h2 => hD q (by omega) (by omega))
    rw [show k + 1 + d = k + (d + 1) by omega] at r1
    refine ⟨r, r1, ?_, ?_⟩
    · rw [numI, show (10 : Int32) = nI 10 from rfl, show (48 : Int32) = nI 48 from rfl, pk_mul, nI_add, pk_sub (by omega), show acc * 10 + b p - 48 = 10 * acc + (b p - 48) by omega]
      exact r2
    · rw [valR, if_pos (show nI acc ≤ 9999 from nI_le (b := 9999) (by omega) (by decide)), show (10 : Int32) = nI 10 from rfl, show (48 : Int32) = nI 48 from rfl, pk_mul, nI_add, pk_sub (by omega), show 10 * acc + b p - 48 = 10 * acc + (b p - 48) by omega]
      exact r3
section RT
variable {b : Nat → Nat} {N : Nat} {m : Mm}
def RT (m : Mm) (b : Nat → Nat) (N : Nat) : Prop := m 0 5 = nI N ∧ ∀ k, k < N → m 4 k = nI (b k) ∧ b k < 256
/-- what a step to the next token may change -/
def FP (m m' : Mm) : Prop := (∀ q, q ≠ 0 → m' q = m q) ∧ ∀ k, (k < 6 ∨ 9 < k) → m' 0 k = m 0 k
theorem FP.rf {m : Mm} : FP m m := ⟨fun _ _ => rfl, fun _ _ => rfl⟩
theorem FP.tr {a c d : Mm} (h : FP a c) (g : FP c d) : FP a d := ⟨fun q hq => (g.1 q hq).trans (h.1 q hq), fun k hk => (g.2 k hk).trans (h.2 k hk)⟩
theorem FP.up {a c : Mm} {k : Nat} {v : Int32} (h : FP a c) (hk : 6 ≤ k ∧ k ≤ 9) : FP a (up c 0 k v) := ⟨fun q hq => (up_row hq).trans (h.1 q hq), fun j hj => (up_ne (Or.inr (by omega))).trans (h.2 j hj)⟩
theorem RT.fp {m' : Mm} (h : RT m b N) (f : FP m m') : RT m' b N := ⟨(f.2 5 (by omega)).trans h.1, fun k hk => by rw [f.1 4 (by decide)]; exact h.2 k hk⟩
theorem byteAt_r (hT : RT m b N) (hN : N ≤ 200) {q : Nat} (hq : q < 1000) : fX12_byteAt (nI q) m = some (if q < N then nI (b q) else -1, m) := by
  unfold fX12_byteAt
  rw [hT.1]
  by_cases c : q < N
  · rw [if_neg (nI_ge c (by omega)), gx_n (by omega) (by decide), ix_n (by omega), (hT.2 q c).1, if_pos c]
  · rw [if_pos (nI_le (by omega) (by omega)), if_neg c]
theorem byteIn_r (hT : RT m b N) (hN : N ≤ 200) {q : Nat} (hq : q < N) : fX12_byteAt (nI q) m = some (nI (b q), m) := by
  rw [byteAt_r hT hN (by omega), if_pos hq]
theorem isAlpha_r {x : Nat} (h : x < 256) (m : Mm) : fX12_isAlpha (nI x) m = some (b2 (decide (97 ≤ x ∧ x ≤ 122)), m) := by
  unfold fX12_isAlpha
  by_cases c1 : x < 97
  · rw [if_pos (show nI x < 97 from nI_lt (b := 97) c1 (by decide)), decide_eq_false (by omega)]; rfl
  · rw [if_neg (show ¬ nI x < 97 from nI_nlt (b := 97) (by omega) (by omega))]
    by_cases c2 : 122 < x
    · rw [if_pos (show (122 : Int32) < nI x from nI_lt (a := 122) c2 (by omega)), decide_eq_false (by omega)]; rfl
    · rw [if_neg (show ¬ (122 : Int32) < nI x from nI_nlt (a := 122) (by omega) (by decide)), decide_eq_true (by omega)]; rfl
theorem isDigit_r {x : Nat} (h : x < 256) (m : Mm) : fX12_isDigit (nI x) m = some (b2 (decide (48 ≤ x ∧ x ≤ 57)), m) := by
  unfold fX12_isDigit
  by_cases c1 : x < 48
  · rw [if_pos (show nI x < 48 from nI_lt (b := 48) c1 (by decide)), decide_eq_false (by omega)]; rfl
  · rw [if_neg (show ¬ nI x < 48 from nI_nlt (b := 48) (by omega) (by omega))]
    by_cases c2 : 57 < x
    · rw [if_pos (show (57 : Int32) < nI x from nI_lt (a := 57) c2 (by omega)), decide_eq_false (by omega)]; rfl
    · rw [if_neg (show ¬ (57 : Int32) < nI x from nI_nlt (a := 57) (by omega) (by decide)), decide_eq_true (by omega)]; rfl
theorem alpha_m1 (m : Mm) : fX12_isAlpha (-1) m = some (0, m) := by unfold fX12_isAlpha; rw [if_pos (by decide)]
theorem digit_m1 (m : Mm) : fX12_isDigit (-1) m = some (0, m) := by unfold fX12_isDigit; rw [if_pos (by decide)]
/-- behind the last byte of a run, or of the text, no more of the run -/
theorem alphaEnd_r (hT : RT m b N) (hN : N ≤ 200) {e : Nat} (he : e ≤ N) (h : e < N → ¬ Ltr b e) : ∃ r, fX12_byteAt (nI e) m = some (r, m) ∧ fX12_isAlpha r m = some (0, m) := by
  refine ⟨_, byteAt_r hT hN (by omega), ?_⟩
  by_cases c : e < N
  · rw [if_pos c, isAlpha_r (hT.2 e c).2, decide_eq_false (show ¬ (97 ≤ b e ∧ b e ≤ 122) from h c)]; rfl
  · rw [if_neg c, alpha_m1]
theorem digitEnd_r (hT : RT m b N) (hN : N ≤ 200) {e : Nat} (he : e ≤ N) (h : e < N → ¬ Dgt b e) : ∃ r, fX12_byteAt (nI e) m = some (r, m) ∧ fX12_isDigit r m = some (0, m) := by
  refine ⟨_, byteAt_r hT hN (by omega), ?_⟩
  by_cases c : e < N
  · rw [if_pos c, isDigit_r (hT.2 e c).2, decide_eq_false (show ¬ (48 ≤ b e ∧ b e ≤ 57) from h c)]; rfl
  · rw [if_neg c, digit_m1]
theorem let91_r (hN : N ≤ 200) {e : Nat} (he : e ≤ N) (hE : e < N → ¬ Ltr b e) : ∀ (d x q : Nat) (m : Mm), x + d = e → d < q → (∀ y, x ≤ y → y < e → Ltr b y) → RT m b N → m 0 6 = 1 → m 0 8 = nI x →
    ∃ m', fX12_nextToken_91 q m = some (0, m') ∧ FP m m' ∧ m' 0 8 = nI e ∧ m' 0 7 = m 0 7 ∧ m' 0 6 = 1 := by
  intro d
  induction d with
  | zero =>
    intro x q m hd hq hL hT h6 h8
    obtain ⟨q, rfl⟩ : ∃ z, q = z + 1 := ⟨q - 1, by omega⟩
    have ex : x = e := by omega
    subst ex
    obtain ⟨r, r1, r2⟩ := alphaEnd_r hT hN he hE
    rw [fX12_nextToken_91, if_pos h6, h8, r1, bd_s, r2, bd_s, if_pos rfl, show FL = 4095 + 1 from rfl, fX12_nextToken_126, if_neg (show ¬ m 0 6 = 2 by rw [h6]; decide)]
    unfold fX12_nextToken_201
    rw [if_pos (show m 0 6 ≤ 2 by rw [h6]; decide), lt_v]
    exact ⟨_, rfl, FP.rf.up (by decide), by rw [up_at, h8, p0], up_ne (Or.inr (by decide)), (up_ne (Or.inr (by decide))).trans h6⟩
  | succ d ih =>
    intro x q m hd hq hL hT h6 h8
    obtain ⟨q, rfl⟩ : ∃ z, q = z + 1 := ⟨q - 1, by omega⟩
    rw [fX12_nextToken_91, if_pos h6, h8, byteIn_r hT hN (by omega), bd_s, isAlpha_r (hT.2 x (by omega)).2, bd_s, decide_eq_true (show 97 ≤ b x ∧ b x ≤ 122 from hL x (Nat.le_refl _) (by omega)), if_neg b2t, lt_v, h8, p1]
    have f : FP m (up m 0 8 (nI (x + 1))) := FP.rf.up (by decide)
    obtain ⟨m', e1, e2, e3, e4, e5⟩ := ih (x + 1) q (up m 0 8 (nI (x + 1))) (by omega) (by omega) (fun y h1 h2 => hL y (by omega) h2) (hT.fp f) ((up_ne (Or.inr (by decide))).trans h6) up_at
    exact ⟨m', e1, f.tr e2, e3, e4.trans (up_ne (Or.inr (by decide))), e5⟩
theorem dig126_r (hN : N ≤ 200) {e : Nat} (he : e ≤ N) (hE : e < N → ¬ Dgt b e) : ∀ (d x q : Nat) (v : Int32) (m : Mm), x + d = e → d < q → (∀ y, x ≤ y → y < e → Dgt b y) → RT m b N → m 0 6 = 2 → m 0 8 = nI x → m 0 9 = v →
    ∃ m', fX12_nextToken_126 q m = some (0, m') ∧ FP m m' ∧ m' 0 8 = nI e ∧ m' 0 7 = m 0 7 ∧ m' 0 6 = 2 ∧ m' 0 9 = valR b d x v := by
  intro d
  induction d with
  | zero =>
    intro x q v m hd hq hL hT h6 h8 h9
    obtain ⟨q, rfl⟩ : ∃ z, q = z + 1 := ⟨q - 1, by omega⟩
    have ex : x = e := by omega
    subst ex
    obtain ⟨r, r1, r2⟩ := digitEnd_r hT hN he hE
    rw [fX12_nextToken_126, if_pos h6, h8, r1, bd_s, r2, bd_s, if_pos rfl]
    unfold fX12_nextToken_201
    rw [if_pos (show m 0 6 ≤ 2 by rw [h6]; decide), lt_v]
    exact ⟨_, rfl, FP.rf.up (by decide), by rw [up_at, h8, p0], up_ne (Or.inr (by decide)), (up_ne (Or.inr (by decide))).trans h6, (up_ne (Or.inr (by decide))).trans h9⟩
  | succ d ih =>
    intro x q v m hd hq hL hT h6 h8 h9
    obtain ⟨q, rfl⟩ : ∃ z, q = z + 1 := ⟨q - 1, by omega⟩
    have h185 : ∀ s0, fX12_nextToken_185 (fun m => fX12_nextToken_126 q m) s0 m = fX12_nextToken_126 q (up (up m 0 9 s0) 0 8 (nI (x + 1))) := fun s0 => by
      unfold fX12_nextToken_185
      rw [lt_v, lt_v, up_ne (Or.inr (by decide)), h8, p1]
    have step : ∀ s0, ∃ m', fX12_nextToken_126 q (up (up m 0 9 s0) 0 8 (nI (x + 1))) = some (0, m') ∧ FP m m' ∧ m' 0 8 = nI e ∧ m' 0 7 = m 0 7 ∧ m' 0 6 = 2 ∧ m' 0 9 = valR b d (x + 1) s0 := fun s0 => by
      have f : FP m (up (up m 0 9 s0) 0 8 (nI (x + 1))) := (FP.rf.up (by decide)).up (by decide)
      obtain ⟨m', e1, e2, e3, e4, e5, e6⟩ := ih (x + 1) q s0 (up (up m 0 9 s0) 0 8 (nI (x + 1))) (by omega) (by omega) (fun y h1 h2 => hL y (by omega) h2) (hT.fp f) (((up_ne (Or.inr (by decide))).trans (up_ne (Or.inr (by decide)))).trans h6) up_at ((up_ne (Or.inr (by decide))).trans up_at)
      exact ⟨m', e1, f.tr e2, e3, e4.trans ((up_ne (Or.inr (by decide))).trans (up_ne (Or.inr (by decide)))), e5, e6⟩
    rw [fX12_nextToken_126, if_pos h6, h8, byteIn_r hT hN (by omega), bd_s, isDigit_r (hT.2 x (by omega)).2, bd_s, decide_eq_true (show 48 ≤ b x ∧ b x ≤ 57 from hL x (Nat.le_refl _) (by omega)), if_neg b2t, h9, valR]
    by_cases c : v ≤ 9999
    · rw [if_pos c, if_pos c, h8, byteIn_r hT hN (by omega), bd_s, h185]
      exact step _
    · rw [if_neg c, if_neg c, h185]
      exact step _
/-- on to the token that begins at s -/
def AtTok (b : Nat → Nat) (N s e : Nat) (m : Mm) : Prop := m 0 7 = nI s ∧ m 0 8 = nI e ∧ m 0 6 = nI (kdN b N s) ∧ (kdN b N s = 2 → e - s ≤ 4 → m 0 9 = numI b (e - s) s 0)
theorem end91 {m : Mm} {k : Nat} (h6 : m 0 6 = nI k) (hk : k = 0 ∨ k = 3) : fX12_nextToken_91 FL m = some (0, up m 0 8 (m 0 8 + (if k = 3 then 1 else 0))) := by
  rw [show FL = 4095 + 1 from rfl, fX12_nextToken_91, if_neg (show ¬ m 0 6 = 1 by rw [h6]; rcases hk with rfl | rfl <;> decide), show FL = 4095 + 1 from rfl, fX12_nextToken_126, if_neg (show ¬ m 0 6 = 2 by rw [h6]; rcases hk with rfl | rfl <;> decide)]
  unfold fX12_nextToken_201
  rcases hk with rfl | rfl
  · rw [if_pos (show m 0 6 ≤ 2 by rw [h6]; decide), lt_v, if_neg (by decide)]
  · rw [if_neg (show ¬ m 0 6 ≤ 2 by rw [h6]; decide), lt_v, if_pos rfl]
theorem next8_r (hN : N ≤ 200) {a s e : Nat} (hS : Sp b N a s) (hE : (s = N ∧ e = N) ∨ (s < N ∧ Tok b N s e)) : ∀ (d x q : Nat) (m : Mm), x + d = s → d < q → a ≤ x → RT m b N → m 0 7 = nI x →
    ∃ m', fX12_nextToken_8 q m = some (0, m') ∧ FP m m' ∧ AtTok b N s e m' := by
  obtain ⟨s1, s2, s3, s4⟩ := hS
  intro d
  induction d with
  | zero =>
    intro x q m hd hq hx hT h7
    obtain ⟨q, rfl⟩ : ∃ z, q = z + 1 := ⟨q - 1, by omega⟩
    have ex : x = s := by omega
    subst ex
    have f1 : FP m (up m 0 8 (nI x)) := FP.rf.up (by decide)
    have hT1 := hT.fp f1
    have h71 : up m 0 8 (nI x) 0 7 = nI x := (up_ne (Or.inr (by decide))).trans h7
    rw [fX12_nextToken_8, h7]
    rcases hE with ⟨rfl, rfl⟩ | ⟨hs, t1, t2, ht⟩
    · rw [byteAt_r hT hN (by omega), if_neg (Nat.lt_irrefl _), bd_s, if_neg (by decide), h7, lt_v, h71, byteAt_r hT1 hN (by omega), if_neg (Nat.lt_irrefl _), bd_s, if_neg (by decide), lt_v, lt_v, end91 (k := 0) (by rw [up_ne (Or.inr (by decide)), up_at]; rfl) (Or.inl rfl), if_neg (by decide)]
      have hk : ∀ z : Nat, kdN b z z = 0 := fun z => if_pos (Nat.le_refl _)
      refine ⟨_, rfl, ((f1.up (by decide)).up (by decide)).up (by decide), ?_, ?_, ?_, ?_⟩
      · rw [up_ne (Or.inr (by decide)), up_ne (Or.inr (by decide)), up_ne (Or.inr (by decide))]; exact h71
      · rw [up_at, up_ne (Or.inr (by decide)), up_ne (Or.inr (by decide)), up_at, p0]
      · rw [up_ne (Or.inr (by decide)), up_ne (Or.inr (by decide)), up_at, hk]; rfl
      · rw [hk]; intro z; exact absurd z (by decide)
    · have b1 := hT.2 x hs
      have n32 : ¬ nI (b x) = 32 := fun z => s4 hs ((nI_eq (a := b x) (b := 32) (by omega) (by decide)).mp z)
      rw [byteIn_r hT hN hs, bd_s, if_neg n32, h7, lt_v, h71, byteIn_r hT1 hN hs, bd_s, if_pos (nI_pos' (by omega)), isAlpha_r b1.2, bd_s]
      have hNs : ¬ N ≤ x := by omega
      rcases ht with ⟨cL, h1, h2⟩ | ⟨cD, h1, h2⟩ | ⟨cL, cD, -, rfl⟩
      · have hk : kdN b N x = 1 := by unfold kdN; rw [if_neg hNs, if_pos (show 97 ≤ b x ∧ b x ≤ 122 from cL)]
        rw [decide_eq_true (show 97 ≤ b x ∧ b x ≤ 122 from cL), if_neg b2t, lt_v, lt_v]
        have f2 : FP m (up (up (up m 0 8 (nI x)) 0 6 1) 0 9 0) := (f1.up (by decide)).up (by decide)
        obtain ⟨m', e1, e2, e3, e4, e5⟩ := let91_r hN t2 h2 (e - x) x FL (up (up (up m 0 8 (nI x)) 0 6 1) 0 9 0) (by omega) (by unfold FL; omega) h1 (hT.fp f2) (by rw [up_ne (Or.inr (by decide)), up_at]) (by rw [up_ne (Or.inr (by decide)), up_ne (Or.inr (by decide)), up_at])
        refine ⟨m', e1, f2.tr e2, ?_, e3, by rw [e5, hk]; rfl, fun z => by omega⟩
        rw [e4, up_ne (Or.inr (by decide)), up_ne (Or.inr (by decide))]; exact h71
      · have cL : ¬ (97 ≤ b x ∧ b x ≤ 122) := fun z => ld_no z cD
        have hk : kdN b N x = 2 := by unfold kdN; rw [if_neg hNs, if_neg cL, if_pos (show 48 ≤ b x ∧ b x ≤ 57 from cD)]
        rw [decide_eq_false cL, if_pos b2f, isDigit_r b1.2, bd_s, decide_eq_true (show 48 ≤ b x ∧ b x ≤ 57 from cD), if_neg b2t, lt_v, lt_v]
        have f2 : FP m (up (up (up m 0 8 (nI x)) 0 6 2) 0 9 0) := (f1.up (by decide)).up (by decide)
        have h62 : up (up (up m 0 8 (nI x)) 0 6 2) 0 9 0 0 6 = 2 := by rw [up_ne (Or.inr (by decide)), up_at]
        obtain ⟨m', e1, e2, e3, e4, e5, e6⟩ := dig126_r hN t2 h2 (e - x) x FL 0 (up (up (up m 0 8 (nI x)) 0 6 2) 0 9 0) (by omega) (by unfold FL; omega) h1 (hT.fp f2) h62 (by rw [up_ne (Or.inr (by decide)), up_ne (Or.inr (by decide)), up_at]) up_at
        refine ⟨m', ?_, f2.tr e2, ?_, e3, by rw [e5, hk]; rfl, fun _ z => ?_⟩
        · rw [show FL = 4095 + 1 from rfl, fX12_nextToken_91, if_neg (show ¬ up (up (up m 0 8 (nI x)) 0 6 2) 0 9 0 0 6 = 1 by rw [h62]; decide)]
          exact e1
        · rw [e4, up_ne (Or.inr (by decide)), up_ne (Or.inr (by decide))]; exact h71
        · obtain ⟨r, -, r2, r3⟩ := num_small (b := b) (e - x) x 0 0 (by decide) (by omega) (fun q h3 h4 => h1 q h3 (by omega))
          rw [e6]
          exact r3.trans r2.symm
      · have hk : kdN b N x = 3 := by unfold kdN; rw [if_neg hNs, if_neg (show ¬ (97 ≤ b x ∧ b x ≤ 122) from cL), if_neg (show ¬ (48 ≤ b x ∧ b x ≤ 57) from cD)]
        rw [decide_eq_false (show ¬ (97 ≤ b x ∧ b x ≤ 122) from cL), if_pos b2f, isDigit_r b1.2, bd_s, decide_eq_false (show ¬ (48 ≤ b x ∧ b x ≤ 57) from cD), if_pos b2f, lt_v, lt_v, end91 (k := 3) (by rw [up_ne (Or.inr (by decide)), up_at]; rfl) (Or.inr rfl), if_pos rfl]
        refine ⟨_, rfl, ((f1.up (by decide)).up (by decide)).up (by decide), ?_, ?_, ?_, ?_⟩
        · rw [up_ne (Or.inr (by decide)), up_ne (Or.inr (by decide)), up_ne (Or.inr (by decide))]; exact h71
        · rw [up_at, up_ne (Or.inr (by decide)), up_ne (Or.inr (by decide)), up_at, p1]
        · rw [up_ne (Or.inr (by decide)), up_ne (Or.inr (by decide)), up_at, hk]; rfl
        · rw [hk]; intro z; exact absurd z (by decide)
  | succ d ih =>
    intro x q m hd hq hx hT h7
    obtain ⟨q, rfl⟩ : ∃ z, q = z + 1 := ⟨q - 1, by omega⟩
    rw [fX12_nextToken_8, h7, byteIn_r hT hN (by omega), bd_s, s3 x hx (by omega), if_pos (show nI 32 = 32 from rfl), lt_v, h7, p1]
    have f : FP m (up m 0 7 (nI (x + 1))) := FP.rf.up (by decide)
    obtain ⟨m', e1, e2, e3⟩ := ih (x + 1) q (up m 0 7 (nI (x + 1))) (by omega) (by omega) (by omega) (hT.fp f) up_at
    exact ⟨m', e1, f.tr e2, e3⟩
theorem nextToken_r (hN : N ≤ 200) {a s e : Nat} (hS : Sp b N a s) (hE : (s = N ∧ e = N) ∨ (s < N ∧ Tok b N s e)) {m : Mm} (hT : RT m b N) (h8 : m 0 8 = nI a) :
    ∃ m', fX12_nextToken m = some (0, m') ∧ FP m m' ∧ AtTok b N s e m' := by
  unfold fX12_nextToken
  rw [lt_v, h8]
  have f : FP m (up m 0 7 (nI a)) := FP.rf.up (by decide)
  obtain ⟨m', e1, e2, e3⟩ := next8_r hN hS hE (s - a) a FL (up m 0 7 (nI a)) (by have := hS.1; omega) (by have := hS.2.1; unfold FL; omega) (Nat.le_refl _) (hT.fp f) up_at
  exact ⟨m', e1, f.tr e2, e3⟩
end RT
