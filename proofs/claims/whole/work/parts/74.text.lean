/-! THE TEXT: its tokens, told once -/
def Ltr (b : Nat → Nat) (p : Nat) : Prop := 97 ≤ b p ∧ b p ≤ 122
def Dgt (b : Nat → Nat) (p : Nat) : Prop := 48 ≤ b p ∧ b p ≤ 57
def Tok (b : Nat → Nat) (N s e : Nat) : Prop := s < e ∧ e ≤ N ∧
  ((Ltr b s ∧ (∀ q, s ≤ q → q < e → Ltr b q) ∧ (e < N → ¬ Ltr b e)) ∨ (Dgt b s ∧ (∀ q, s ≤ q → q < e → Dgt b q) ∧ (e < N → ¬ Dgt b e)) ∨ (¬ Ltr b s ∧ ¬ Dgt b s ∧ b s ≠ 32 ∧ e = s + 1))
def Sp (b : Nat → Nat) (N a s : Nat) : Prop := a ≤ s ∧ s ≤ N ∧ (∀ q, a ≤ q → q < s → b q = 32) ∧ (s < N → b s ≠ 32)
def pe (en : Nat → Nat) (i : Nat) : Nat := if i = 0 then 0 else en (i - 1)
def Chain (b : Nat → Nat) (N n : Nat) (pl en : Nat → Nat) : Prop := n ≤ N ∧ (∀ i, i < n → pl i < N ∧ Tok b N (pl i) (en i)) ∧ (∀ i, i ≤ n → Sp b N (pe en i) (pl i)) ∧ pl n = N ∧ en n = N
def wlen (w : Nat) : Nat := ([3, 5, 6, 6, 4, 7, 4, 4, 4, 2, 2, 3, 3, 6, 6, 5, 4, 6] : List Nat).getD w 0
def wchr (k : Nat) : Nat := ([115, 101, 116, 32, 32, 32, 32, 32, 97, 108, 111, 110, 101, 32, 32, 32, 115, 104, 97, 114, 101, 100, 32, 32, 112, 97, 105, 114, 101, 100, 32, 32, 104, 101, 108, 100, 32, 32, 32, 32, 117, 110, 97, 115, 107, 101, 100, 32, 108, 105, 102, 116, 32, 32, 32, 32, 101, 97, 115, 101, 32, 32, 32, 32, 119, 97, 105, 116, 32, 32, 32, 32, 105, 102, 32, 32, 32, 32, 32, 32, 111, 114, 32, 32, 32, 32, 32, 32, 97, 110, 100, 32, 32, 32, 32, 32, 110, 111, 116, 32, 32, 32, 32, 32, 109, 105, 110, 117, 116, 101, 32, 32, 119, 101, 105, 103, 104, 116, 32, 32, 116, 105, 114, 101, 100, 32, 32, 32, 108, 101, 102, 116, 32, 32, 32, 32, 110, 117, 109, 98, 101, 114, 32, 32] : List Nat).getD k 0
def IsW (b : Nat → Nat) (s e w : Nat) : Prop := e - s = wlen w ∧ ∀ j, j < wlen w → b (s + j) = wchr (8 * w + j)
def isWB (b : Nat → Nat) (s e w : Nat) : Bool := decide (e - s = wlen w) && decide (∀ j, j < wlen w → b (s + j) = wchr (8 * w + j))
theorem isWB_iff {b : Nat → Nat} {s e w : Nat} : isWB b s e w = true ↔ IsW b s e w := by
  unfold isWB IsW
  rw [Bool.and_eq_true, decide_eq_true_eq, decide_eq_true_eq]
def wrd (b : Nat → Nat) (s e : Nat) : Nat → Nat → Int32
  | 0, _ => -2
  | d + 1, w => if isWB b s e w = true then nI w else wrd b s e d (w + 1)
def wordV (b : Nat → Nat) (s e : Nat) : Int32 := wrd b s e 18 0
def numI (b : Nat → Nat) : Nat → Nat → Int32 → Int32
  | 0, _, x => x
  | d + 1, p, x => numI b d (p + 1) (x * 10 + nI (b p) - 48)
def tokV (b : Nat → Nat) (N s e : Nat) : Int32 :=
  if N ≤ s then -1 else if 97 ≤ b s ∧ b s ≤ 122 then wordV b s e else if 48 ≤ b s ∧ b s ≤ 57 then (if e - s ≤ 4 then 1000 + numI b (e - s) s 0 else -2) else nI (256 + b s)
/-! a byte of the tape, as the landed program has it -/
def sb (x : Nat) : Int32 := (nI x).toInt8.toInt32
theorem letC : ∀ x, x < 256 → (if sb x < 97 then false else if 122 < sb x then false else true) = decide (97 ≤ x ∧ x ≤ 122) := by decide +kernel
theorem digC : ∀ x, x < 256 → (if sb x < 48 then false else if 57 < sb x then false else true) = decide (48 ≤ x ∧ x ≤ 57) := by decide +kernel
theorem spC : ∀ x, x < 256 → decide (sb x = 32) = decide (x = 32) := by decide +kernel
theorem othC : ∀ x, x < 256 → 256 + (sb x &&& 255) = nI (256 + x) := by decide +kernel
theorem lowC : ∀ x, x < 128 → sb x = nI x := by decide +kernel
theorem wch_s : ∀ k, k < 144 → sChar k = nI (wchr k) := by decide +kernel
theorem wch_lt : ∀ k, k < 144 → wchr k < 128 := by decide +kernel
theorem wlen_le : ∀ w, w < 18 → wlen w ≤ 7 := by decide
theorem wlen_ge : ∀ w, w < 18 → 2 ≤ wlen w := by decide
theorem wend : ∀ w, w < 18 → wchr (8 * w + wlen w) = 32 := by decide +kernel
theorem wmid : ∀ w, w < 18 → ∀ j, j < 8 → j < wlen w → wchr (8 * w + j) ≠ 32 := by decide +kernel
theorem isLetter_c {x : Nat} (h : x < 256) (m : Mm) : fX8_isLetter (sb x) m = some (b2 (decide (97 ≤ x ∧ x ≤ 122)), m) := by
  rw [← letC x h]
  unfold fX8_isLetter
  by_cases c1 : sb x < 97
  · simp [c1]
  · by_cases c2 : 122 < sb x <;> simp [c1, c2]
theorem isDigit_c {x : Nat} (h : x < 256) (m : Mm) : fX8_isDigit (sb x) m = some (b2 (decide (48 ≤ x ∧ x ≤ 57)), m) := by
  rw [← digC x h]
  unfold fX8_isDigit
  by_cases c1 : sb x < 48
  · simp [c1]
  · by_cases c2 : 57 < sb x <;> simp [c1, c2]
section CUT
variable {b : Nat → Nat} {N i : Nat} {m : Mm}
def TapeC (m : Mm) (b : Nat → Nat) (N : Nat) : Prop := ∀ k, k < N → m 1 k = sb (b k) ∧ b k < 256
def Bg (b : Nat → Nat) (p : Nat) : Prop := (Ltr b p ∧ (p = 0 ∨ ¬ Ltr b (p - 1))) ∨ (Dgt b p ∧ (p = 0 ∨ ¬ Dgt b (p - 1))) ∨ (¬ Ltr b p ∧ ¬ Dgt b p ∧ b p ≠ 32)
theorem ld_no {b : Nat → Nat} {p : Nat} (h : Ltr b p) : ¬ Dgt b p := fun z => by unfold Ltr at h; unfold Dgt at z; omega
theorem beginsAt_c (hT : TapeC m b N) (hN : N ≤ 200) {p : Nat} (hp : p < N) : ∃ B, fX8_beginsAt i (nI p) m = some (b2 B, m) ∧ (B = true ↔ Bg b p) := by
  obtain ⟨t1, t2⟩ := hT p hp
  unfold fX8_beginsAt
  rw [gx_n (by omega) (by decide), ix_n (by omega), t1, isLetter_c t2, bd_s]
  have hp0 : nI p = 0 ↔ p = 0 := nI_eq (a := p) (b := 0) (by omega) (by decide)
  by_cases cL : Ltr b p
  · have cD := ld_no cL
    rw [decide_eq_true (show 97 ≤ b p ∧ b p ≤ 122 from cL), if_neg b2t]
    by_cases c0 : p = 0
    · rw [if_pos (hp0.mpr c0)]
      exact ⟨true, rfl, fun _ => Or.inl ⟨cL, Or.inl c0⟩, fun _ => rfl⟩
    · obtain ⟨u1, u2⟩ := hT (p - 1) (by omega)
      rw [if_neg (fun z => c0 (hp0.mp z)), m1 (by omega), gx_n (by omega) (by decide), ix_n (by omega), u1, isLetter_c u2, bd_s]
      by_cases cP : Ltr b (p - 1)
      · rw [decide_eq_true (show 97 ≤ b (p - 1) ∧ b (p - 1) ≤ 122 from cP), if_neg b2t]
        refine ⟨false, rfl, fun z => absurd z (by decide), fun z => ?_⟩
        rcases z with ⟨-, z⟩ | ⟨z, -⟩ | ⟨z, -⟩
        · exact absurd cP (z.resolve_left c0)
        · exact absurd z cD
        · exact absurd cL z
      · rw [decide_eq_false (show ¬ (97 ≤ b (p - 1) ∧ b (p - 1) ≤ 122) from cP), if_pos b2f]
        exact ⟨true, rfl, fun _ => Or.inl ⟨cL, Or.inr cP⟩, fun _ => rfl⟩
  · rw [decide_eq_false (show ¬ (97 ≤ b p ∧ b p ≤ 122) from cL), if_pos b2f, t1, isDigit_c t2, bd_s]
    by_cases cD : Dgt b p
    · rw [decide_eq_true (show 48 ≤ b p ∧ b p ≤ 57 from cD), if_neg b2t]
      by_cases c0 : p = 0
      · rw [if_pos (hp0.mpr c0)]
        exact ⟨true, rfl, fun _ => Or.inr (Or.inl ⟨cD, Or.inl c0⟩), fun _ => rfl⟩
      · obtain ⟨u1, u2⟩ := hT (p - 1) (by omega)
        rw [if_neg (fun z => c0 (hp0.mp z)), m1 (by omega), gx_n (by omega) (by decide), ix_n (by omega), u1, isDigit_c u2, bd_s]
        by_cases cP : Dgt b (p - 1)
        · rw [decide_eq_true (show 48 ≤ b (p - 1) ∧ b (p - 1) ≤ 57 from cP), if_neg b2t]
          refine ⟨false, rfl, fun z => absurd z (by decide), fun z => ?_⟩
          rcases z with ⟨z, -⟩ | ⟨-, z⟩ | ⟨-, z, -⟩
          · exact absurd z cL
          · exact absurd cP (z.resolve_left c0)
          · exact absurd cD z
        · rw [decide_eq_false (show ¬ (48 ≤ b (p - 1) ∧ b (p - 1) ≤ 57) from cP), if_pos b2f]
          exact ⟨true, rfl, fun _ => Or.inr (Or.inl ⟨cD, Or.inr cP⟩), fun _ => rfl⟩
    · rw [decide_eq_false (show ¬ (48 ≤ b p ∧ b p ≤ 57) from cD), if_pos b2f]
      have hs := spC (b p) t2
      rw [t1]
      by_cases c : b p = 32
      · rw [decide_eq_true c, decide_eq_true_eq] at hs
        rw [if_pos hs]
        refine ⟨false, rfl, fun z => absurd z (by decide), fun z => ?_⟩
        rcases z with ⟨z, -⟩ | ⟨z, -⟩ | ⟨-, -, z⟩
        · exact absurd z cL
        · exact absurd z cD
        · exact absurd c z
      · rw [decide_eq_false c, decide_eq_false_iff_not] at hs
        rw [if_neg hs]
        exact ⟨true, rfl, fun _ => Or.inr (Or.inr ⟨cL, cD, c⟩), fun _ => rfl⟩
/-- how far a run of one sort goes -/
theorem run_ex (P : Nat → Prop) {N : Nat} : ∀ (d p : Nat), p + d = N → 0 < d → P p → ∃ e, p < e ∧ e ≤ N ∧ (∀ q, p ≤ q → q < e → P q) ∧ (e < N → ¬ P e) := by
  intro d
  induction d with
  | zero => intro p _ h; omega
  | succ d ih =>
    intro p hd _ hp
    by_cases c : d = 0
    · exact ⟨p + 1, by omega, by omega, fun q h1 h2 => by rw [show q = p by omega]; exact hp, fun z => by omega⟩
    · by_cases c2 : P (p + 1)
      · obtain ⟨e, e1, e2, e3, e4⟩ := ih (p + 1) (by omega) (by omega) c2
        refine ⟨e, by omega, e2, fun q h1 h2 => ?_, e4⟩
        by_cases z : q = p
        · rw [z]; exact hp
        · exact e3 q (by omega) h2
      · exact ⟨p + 1, by omega, by omega, fun q h1 h2 => by rw [show q = p by omega]; exact hp, fun _ => c2⟩
theorem tok_ex {p : Nat} (hp : p < N) (h : b p ≠ 32) : ∃ e, Tok b N p e := by
  by_cases cL : Ltr b p
  · obtain ⟨e, e1, e2, e3, e4⟩ := run_ex (N := N) (Ltr b) (N - p) p (by omega) (by omega) cL
    exact ⟨e, e1, e2, Or.inl ⟨cL, e3, e4⟩⟩
  · by_cases cD : Dgt b p
    · obtain ⟨e, e1, e2, e3, e4⟩ := run_ex (N := N) (Dgt b) (N - p) p (by omega) (by omega) cD
      exact ⟨e, e1, e2, Or.inr (Or.inl ⟨cD, e3, e4⟩)⟩
    · exact ⟨p + 1, by omega, by omega, Or.inr (Or.inr ⟨cL, cD, h, rfl⟩)⟩
theorem word27_c (hT : TapeC m b N) (hN : N ≤ 200) {w p ℓ : Nat} (hw : w < 18) (hl : ℓ < 8) (hp : p + ℓ ≤ N) (hL : ∀ j, j < ℓ → Ltr b (p + j)) :
    ∀ (d j q : Nat), j + d = ℓ → d < q → ∃ B, fX8_isWord_27 i q (nI w) (nI p) (nI ℓ) (nI j) m = some (b2 B, m) ∧ (B = true ↔ ∀ k, j ≤ k → k < ℓ → b (p + k) = wchr (8 * w + k)) := by
  intro d
  induction d with
  | zero =>
    intro j q hd hq
    obtain ⟨q, rfl⟩ : ∃ z, q = z + 1 := ⟨q - 1, by omega⟩
    rw [fX8_isWord_27, if_pos (nI_le (by omega) (by omega))]
    exact ⟨true, rfl, fun _ k h1 h2 => by omega, fun _ => rfl⟩
  | succ d ih =>
    intro j q hd hq
    obtain ⟨q, rfl⟩ : ∃ z, q = z + 1 := ⟨q - 1, by omega⟩
    obtain ⟨t1, t2⟩ := hT (p + j) (by omega)
    have hlj := hL j (by omega)
    unfold Ltr at hlj
    rw [fX8_isWord_27, if_neg (nI_ge (by omega) (by omega)), show (8 : Int32) = nI 8 from rfl, pk_mul, nI_add, nI_add, show w * 8 + j = 8 * w + j by omega, gx_n (by omega) (by decide), gx_n (by omega) (by decide), ix_n (by omega), ix_n (by omega), t1, wch_s _ (by omega), lowC _ (by omega)]
    have e := nI_eq (a := wchr (8 * w + j)) (b := b (p + j)) (by have := wch_lt (8 * w + j) (by omega); omega) (by omega)
    by_cases c : b (p + j) = wchr (8 * w + j)
    · rw [if_pos (e.mpr c.symm), lt_v, p1]
      obtain ⟨B, r1, r2⟩ := ih (j + 1) q (by omega) (by omega)
      refine ⟨B, r1, r2.trans ⟨fun z k h1 h2 => ?_, fun z k h1 h2 => z k (by omega) h2⟩⟩
      by_cases ek : k = j
      · rw [ek]; exact c
      · exact z k (by omega) h2
    · rw [if_neg (fun z => c (e.mp z).symm)]
      exact ⟨false, rfl, fun z => absurd z (by decide), fun z => absurd (z j (Nat.le_refl _) (by omega)) c⟩
theorem isWord_c (hT : TapeC m b N) (hN : N ≤ 200) {w p e : Nat} (hw : w < 18) (hpe : p ≤ e) (he : e ≤ N) (hL : ∀ q, p ≤ q → q < e → Ltr b q) : fX8_isWord i (nI w) (nI p) (nI (e - p)) m = some (b2 (isWB b p e w), m) := by
  have w7 := wlen_le w hw
  unfold fX8_isWord
  by_cases c8 : 8 ≤ e - p
  · have : isWB b p e w = false := by
      unfold isWB
      rw [decide_eq_false (show ¬ e - p = wlen w by omega), Bool.false_and]
    rw [if_pos (show (8 : Int32) ≤ nI (e - p) from nI_le (a := 8) c8 (by omega)), this]; rfl
  · rw [if_neg (show ¬ (8 : Int32) ≤ nI (e - p) from nI_ge (b := 8) (by omega) (by decide)), show (8 : Int32) = nI 8 from rfl, pk_mul, nI_add, show w * 8 + (e - p) = 8 * w + (e - p) by omega, gx_n (by omega) (by decide), ix_n (by omega), wch_s _ (by omega)]
    have e3 := nI_eq (a := wchr (8 * w + (e - p))) (b := 32) (by have := wch_lt (8 * w + (e - p)) (by omega); omega) (by decide)
    by_cases c : wchr (8 * w + (e - p)) = 32
    · rw [if_pos (show nI (wchr (8 * w + (e - p))) = 32 from e3.mpr c)]
      obtain ⟨B, r, rB⟩ := word27_c (i := i) hT hN hw (show e - p < 8 by omega) (show p + (e - p) ≤ N by omega) (fun j hj => hL _ (by omega) (by omega)) (e - p) 0 FL (by omega) (by unfold FL; omega)
      · have r' : fX8_isWord_27 i FL (nI w) (nI p) (nI (e - p)) 0 m = some (b2 B, m) := r
        suffices hB : B = isWB b p e w by rw [r', hB]
        refine Bool.eq_iff_iff.mpr ?_
        rw [isWB_iff, rB]
        unfold IsW
        constructor
        · intro z
          have hle : e - p = wlen w := by
            rcases Nat.lt_trichotomy (e - p) (wlen w) with h | h | h
            · exact absurd c (wmid w hw (e - p) (by omega) h)
            · exact h
            · have h1 := z (wlen w) (Nat.zero_le _) h
              have h2 := hL (p + wlen w) (by omega) (by omega)
              rw [wend w hw] at h1
              unfold Ltr at h2
              omega
          exact ⟨hle, fun j hj => z j (Nat.zero_le _) (by omega)⟩
        · rintro ⟨z1, z2⟩ k - hk
          exact z2 k (by omega)
    · rw [if_neg (show ¬ nI (wchr (8 * w + (e - p))) = 32 from fun z => c (e3.mp z))]
      have : isWB b p e w = false := by
        unfold isWB
        by_cases el : e - p = wlen w
        · rw [el] at c
          exact absurd (wend w hw) c
        · rw [decide_eq_false el, Bool.false_and]
      rw [this]; rfl
theorem word28_c (hT : TapeC m b N) (hN : N ≤ 200) {p e : Nat} (hpe : p ≤ e) (he : e ≤ N) (hL : ∀ q, p ≤ q → q < e → Ltr b q) :
    ∀ (d w q : Nat), w + d = 18 → d < q → fX8_wordAt_28 i q (nI p) (nI e) (nI w) m = some (wrd b p e d w, m) := by
  intro d
  induction d with
  | zero =>
    intro w q hd hq
    obtain ⟨q, rfl⟩ : ∃ z, q = z + 1 := ⟨q - 1, by omega⟩
    rw [fX8_wordAt_28, if_pos (show (18 : Int32) ≤ nI w from nI_le (a := 18) (by omega) (by omega))]
    rfl
  | succ d ih =>
    intro w q hd hq
    obtain ⟨q, rfl⟩ : ∃ z, q = z + 1 := ⟨q - 1, by omega⟩
    rw [fX8_wordAt_28, if_neg (show ¬ (18 : Int32) ≤ nI w from nI_ge (b := 18) (by omega) (by decide)), pk_sub hpe, isWord_c hT hN (by omega) hpe he hL, bd_s, wrd]
    cases isWB b p e w
    · rw [if_pos b2f, if_neg (show ¬ false = true by decide), lt_v, p1]
      exact ih (w + 1) q (by omega) (by omega)
    · rw [if_neg b2t, if_pos rfl]
theorem word2_c (hT : TapeC m b N) (hN : N ≤ 200) {p e : Nat} (hpe : p < e) (he : e ≤ N) (hL : ∀ q, p ≤ q → q < e → Ltr b q) (hE : e < N → ¬ Ltr b e) :
    ∀ (d x q : Nat), x + d = e → p ≤ x → d < q → fX8_wordAt_2 i q (nI p) (nI N) (nI x) m = some (wordV b p e, m) := by
  have h28 : fX8_wordAt_28 i FL (nI p) (nI e) 0 m = some (wordV b p e, m) := word28_c hT hN (by omega) he hL 18 0 FL (by omega) (by unfold FL; omega)
  intro d
  induction d with
  | zero =>
    intro x q hd hx hq
    obtain ⟨q, rfl⟩ : ∃ z, q = z + 1 := ⟨q - 1, by omega⟩
    have ex : x = e := by omega
    subst ex
    rw [fX8_wordAt_2]
    by_cases c : N ≤ x
    · rw [if_pos (nI_le c (by omega))]; exact h28
    · obtain ⟨t1, t2⟩ := hT x (by omega)
      rw [if_neg (nI_ge (by omega) (by omega)), gx_n (by omega) (by decide), ix_n (by omega), t1, isLetter_c t2, bd_s, decide_eq_false (show ¬ (97 ≤ b x ∧ b x ≤ 122) from hE (by omega)), if_pos b2f]
      exact h28
  | succ d ih =>
    intro x q hd hx hq
    obtain ⟨q, rfl⟩ : ∃ z, q = z + 1 := ⟨q - 1, by omega⟩
    obtain ⟨t1, t2⟩ := hT x (by omega)
    rw [fX8_wordAt_2, if_neg (nI_ge (by omega) (by omega)), gx_n (by omega) (by decide), ix_n (by omega), t1, isLetter_c t2, bd_s, decide_eq_true (show 97 ≤ b x ∧ b x ≤ 122 from hL x hx (by omega)), if_neg b2t, lt_v, p1]
    exact ih (x + 1) q (by omega) (by omega) (by omega)
theorem num5_c (hT : TapeC m b N) (hN : N ≤ 200) {p e : Nat} (hpe : p < e) (he : e ≤ N) (hL : ∀ q, p ≤ q → q < e → Dgt b q) (hE : e < N → ¬ Dgt b e) :
    ∀ (d x q : Nat) (v : Int32), x + d = e → p ≤ x → d < q → fX8_numberAt_5 i q (nI p) (nI N) v (nI x) m = fX8_numberAt_46 i (nI p) (numI b d x v) (nI e) m := by
  intro d
  induction d with
  | zero =>
    intro x q v hd hx hq
    obtain ⟨q, rfl⟩ : ∃ z, q = z + 1 := ⟨q - 1, by omega⟩
    have ex : x = e := by omega
    subst ex
    rw [fX8_numberAt_5]
    by_cases c : N ≤ x
    · rw [if_pos (nI_le c (by omega))]; rfl
    · obtain ⟨t1, t2⟩ := hT x (by omega)
      rw [if_neg (nI_ge (by omega) (by omega)), gx_n (by omega) (by decide), ix_n (by omega), t1, isDigit_c t2, bd_s, decide_eq_false (show ¬ (48 ≤ b x ∧ b x ≤ 57) from hE (by omega)), if_pos b2f]
      rfl
  | succ d ih =>
    intro x q v hd hx hq
    obtain ⟨q, rfl⟩ : ∃ z, q = z + 1 := ⟨q - 1, by omega⟩
    obtain ⟨t1, t2⟩ := hT x (by omega)
    have hdx := hL x hx (by omega)
    rw [fX8_numberAt_5, if_neg (nI_ge (by omega) (by omega)), gx_n (by omega) (by decide), ix_n (by omega), t1, isDigit_c t2, bd_s, decide_eq_true (show 48 ≤ b x ∧ b x ≤ 57 from hdx), if_neg b2t, t1, lowC _ (by unfold Dgt at hdx; omega), lt_v, lt_v, p1, numI]
    exact ih (x + 1) q _ (by omega) (by omega) (by omega)
theorem tokenAt_c (hT : TapeC m b N) (hN : N ≤ 200) {p e : Nat} (hp : p < N) (h : Tok b N p e) : fX8_tokenAt i (nI p) (nI N) m = some (tokV b N p e, m) := by
  obtain ⟨t1, t2⟩ := hT p hp
  obtain ⟨hpe, heN, h⟩ := h
  unfold fX8_tokenAt tokV
  rw [gx_n (by omega) (by decide), ix_n (by omega), t1, isLetter_c t2, bd_s, if_neg (show ¬ N ≤ p by omega)]
  rcases h with ⟨cL, h1, h2⟩ | ⟨cD, h1, h2⟩ | ⟨cL, cD, -, rfl⟩
  · have e2 : fX8_wordAt i (nI p) (nI N) m = some (wordV b p e, m) := word2_c hT hN hpe heN h1 h2 (e - p) p FL (by omega) (by omega) (by unfold FL; omega)
    rw [decide_eq_true (show 97 ≤ b p ∧ b p ≤ 122 from cL), if_neg b2t, if_pos (show 97 ≤ b p ∧ b p ≤ 122 from cL), e2, bd_s]
  · have cL : ¬ (97 ≤ b p ∧ b p ≤ 122) := fun z => ld_no z cD
    have e2 : fX8_numberAt i (nI p) (nI N) m = _ := num5_c hT hN hpe heN h1 h2 (e - p) p FL 0 (by omega) (by omega) (by unfold FL; omega)
    rw [decide_eq_false cL, if_pos b2f, if_neg cL, t1, isDigit_c t2, bd_s, decide_eq_true (show 48 ≤ b p ∧ b p ≤ 57 from cD), if_neg b2t, if_pos (show 48 ≤ b p ∧ b p ≤ 57 from cD), e2]
    unfold fX8_numberAt_46
    rw [pk_sub (by omega)]
    by_cases c : e - p ≤ 4
    · rw [if_pos (show nI (e - p) ≤ 4 from nI_le (b := 4) c (by decide)), if_pos c, bd_s]
    · rw [if_neg (show ¬ nI (e - p) ≤ 4 from nI_ge (a := 4) (by omega) (by omega)), if_neg c, bd_s]
  · rw [decide_eq_false (show ¬ (97 ≤ b p ∧ b p ≤ 122) from cL), if_pos b2f, if_neg (show ¬ (97 ≤ b p ∧ b p ≤ 122) from cL), t1, isDigit_c t2, bd_s, decide_eq_false (show ¬ (48 ≤ b p ∧ b p ≤ 57) from cD), if_pos b2f, if_neg (show ¬ (48 ≤ b p ∧ b p ≤ 57) from cD), t1, othC _ t2]
theorem TapeC.fr {m' : Mm} (hT : TapeC m b N) (h : m' 1 = m 1) : TapeC m' b N := fun k hk => by rw [h]; exact hT k hk
/-- the text cut -/
theorem cut_c (hN : N ≤ 200) (hi : i < 3) : ∀ (d p q k : Nat) (pl en : Nat → Nat) (m : Mm), p + d = N → d < q → k ≤ p → TapeC m b N →
    (∀ j, j < k → pl j < N ∧ Tok b N (pl j) (en j) ∧ Sp b N (pe en j) (pl j) ∧ m (rp i 8) j = tokV b N (pl j) (en j) ∧ m (rp i 9) j = nI (pl j)) →
    pe en k ≤ N → (p < pe en k → 0 < k ∧ pl (k - 1) < p) → (∀ q, pe en k ≤ q → q < p → b q = 32) →
    ∃ n pl' en' m', fX8_cut_4 i q (nI N) (nI k) (nI p) m = some (0, m') ∧ Chain b N n pl' en' ∧ (∀ j, j ≤ n → m' (rp i 8) j = tokV b N (pl' j) (en' j) ∧ m' (rp i 9) j = nI (pl' j)) ∧ ∀ q, q ≠ rp i 8 → q ≠ rp i 9 → m' q = m q := by
  have r1 : rp i 8 ≠ 1 := by unfold rp; omega
  have r2 : rp i 9 ≠ 1 := by unfold rp; omega
  have r3 : rp i 9 ≠ rp i 8 := by unfold rp; omega
  intro d
  induction d with
  | zero =>
    intro p q k pl en m hd hq hk hT hA hE hin hsp
    obtain ⟨q, rfl⟩ : ∃ z, q = z + 1 := ⟨q - 1, by omega⟩
    have ep : p = N := by omega
    subst ep
    rw [fX8_cut_4, if_pos (nI_le (Nat.le_refl _) (by omega)), gx_n (by omega) (by decide), ix_n (by omega), lt_v, lt_v]
    have hpe : ∀ j, j ≤ k → pe (fun j => if j = k then p else en j) j = pe en j := fun j hj => by
      unfold pe
      by_cases c : j = 0
      · rw [if_pos c, if_pos c]
      · rw [if_neg c, if_neg c]
        exact if_neg (show ¬ j - 1 = k by omega)
    refine ⟨k, fun j => if j = k then p else pl j, fun j => if j = k then p else en j, _, rfl, ⟨hk, fun j hj => ?_, fun j hj => ?_, if_pos rfl, if_pos rfl⟩, fun j hj => ?_, fun q h1 h2 => (up_row h2).trans (up_row h1)⟩
    · simp only [if_neg (show ¬ j = k by omega)]
      exact ⟨(hA j hj).1, (hA j hj).2.1⟩
    · rw [hpe j hj]
      by_cases c : j = k
      · simp only [if_pos c]
        subst c
        refine ⟨hE, Nat.le_refl _, fun q h1 h2 => hsp q h1 h2, fun z => by omega⟩
      · simp only [if_neg c]
        exact (hA j (by omega)).2.2.1
    · by_cases c : j = k
      · simp only [if_pos c]
        subst c
        refine ⟨?_, up_at⟩
        rw [up_row (Ne.symm r3), up_at]
        unfold tokV
        rw [if_pos (Nat.le_refl _)]
      · simp only [if_neg c]
        rw [up_row (Ne.symm r3), up_ne (Or.inr c), up_ne (Or.inr c), up_row r3]
        exact (hA j (by omega)).2.2.2
  | succ d ih =>
    intro p q k pl en m hd hq hk hT hA hE hin hsp
    obtain ⟨q, rfl⟩ : ∃ z, q = z + 1 := ⟨q - 1, by omega⟩
    have hp : p < N := by omega
    obtain ⟨B, e1, e2⟩ := beginsAt_c (i := i) hT hN hp
    rw [fX8_cut_4, if_neg (nI_ge (by omega) (by omega)), e1, bd_s]
    by_cases cin : p < pe en k
    · obtain ⟨k0, hpl⟩ := hin cin
      have hpe : pe en k = en (k - 1) := if_neg (by omega)
      obtain ⟨-, ⟨s1, s2, ht⟩, -⟩ := hA (k - 1) (by omega)
      have nb : ¬ Bg b p := by
        rintro (⟨z, y⟩ | ⟨z, y⟩ | ⟨z, y, -⟩)
        · rcases ht with ⟨-, h1, -⟩ | ⟨-, h1, -⟩ | ⟨-, -, -, h1⟩
          · exact (y.resolve_left (by omega)) (h1 (p - 1) (by omega) (by omega))
          · exact ld_no z (h1 p (by omega) (by omega))
          · omega
        · rcases ht with ⟨-, h1, -⟩ | ⟨-, h1, -⟩ | ⟨-, -, -, h1⟩
          · exact ld_no (h1 p (by omega) (by omega)) z
          · exact (y.resolve_left (by omega)) (h1 (p - 1) (by omega) (by omega))
          · omega
        · rcases ht with ⟨-, h1, -⟩ | ⟨-, h1, -⟩ | ⟨-, -, -, h1⟩
          · exact z (h1 p (by omega) (by omega))
          · exact y (h1 p (by omega) (by omega))
          · omega
      have hB : B = false := by cases B with
        | false => rfl
        | true => exact absurd (e2.mp rfl) nb
      rw [hB, if_pos b2f, lt_v, p1]
      exact ih (p + 1) q k pl en m (by omega) (by omega) (by omega) hT hA hE (fun z => ⟨k0, by omega⟩) (fun q h1 h2 => by omega)
    · by_cases c32 : b p = 32
      · have nb : ¬ Bg b p := by
          rintro (⟨z, -⟩ | ⟨z, -⟩ | ⟨-, -, z⟩)
          · unfold Ltr at z; omega
          · unfold Dgt at z; omega
          · exact z c32
        have hB : B = false := by cases B with
          | false => rfl
          | true => exact absurd (e2.mp rfl) nb
        rw [hB, if_pos b2f, lt_v, p1]
        refine ih (p + 1) q k pl en m (by omega) (by omega) (by omega) hT hA hE (fun z => by omega) (fun q h1 h2 => ?_)
        by_cases z : q = p
        · rw [z]; exact c32
        · exact hsp q h1 (by omega)
      · have before : p = 0 ∨ (¬ Ltr b p ∨ ¬ Ltr b (p - 1)) ∧ (¬ Dgt b p ∨ ¬ Dgt b (p - 1)) := by
          by_cases c : p = pe en k
          · by_cases k0 : k = 0
            · left
              rw [c]
              unfold pe
              rw [if_pos k0]
            · right
              have hpe : pe en k = en (k - 1) := if_neg k0
              obtain ⟨-, ⟨s1, s2, ht⟩, -⟩ := hA (k - 1) (by omega)
              rw [hpe] at c
              rcases ht with ⟨-, h1, h2⟩ | ⟨-, h1, h2⟩ | ⟨h1, h2, -, h3⟩
              · exact ⟨Or.inl (by rw [c]; exact h2 (by omega)), Or.inr (ld_no (h1 (p - 1) (by omega) (by omega)))⟩
              · exact ⟨Or.inr (fun z => ld_no z (h1 (p - 1) (by omega) (by omega))), Or.inl (by rw [c]; exact h2 (by omega))⟩
              · have : p - 1 = pl (k - 1) := by omega
                exact ⟨Or.inr (by rw [this]; exact h1), Or.inr (by rw [this]; exact h2)⟩
          · right
            have := hsp (p - 1) (by omega) (by omega)
            exact ⟨Or.inr (fun z => by unfold Ltr at z; omega), Or.inr (fun z => by unfold Dgt at z; omega)⟩
        have yes : Bg b p := by
          by_cases cL : Ltr b p
          · exact Or.inl ⟨cL, before.elim Or.inl fun z => Or.inr (z.1.resolve_left fun y => y cL)⟩
          · by_cases cD : Dgt b p
            · exact Or.inr (Or.inl ⟨cD, before.elim Or.inl fun z => Or.inr (z.2.resolve_left fun y => y cD)⟩)
            · exact Or.inr (Or.inr ⟨cL, cD, c32⟩)
        obtain ⟨e, he⟩ := tok_ex hp c32
        have hB : B = true := e2.mpr yes
        rw [hB, if_neg b2t, tokenAt_c hT hN hp he, bd_s, gx_n (by omega) (by decide), ix_n (by omega), lt_v, lt_v, lt_v, lt_v, p1, p1]
        have hpe : ∀ j, j ≤ k → pe (fun j => if j = k then e else en j) j = pe en j := fun j hj => by
          unfold pe
          by_cases c : j = 0
          · rw [if_pos c, if_pos c]
          · rw [if_neg c, if_neg c]
            exact if_neg (show ¬ j - 1 = k by omega)
        have hpk : pe (fun j => if j = k then e else en j) (k + 1) = e := by
          unfold pe
          rw [if_neg (by omega)]
          exact if_pos (by omega)
        obtain ⟨n, pl', en', m', f1, f2, f3, f4⟩ := ih (p + 1) q (k + 1) (fun j => if j = k then p else pl j) (fun j => if j = k then e else en j) (up (up m (rp i 8) k (tokV b N p e)) (rp i 9) k (nI p)) (by omega) (by omega) (by omega) (hT.fr ((up_row (Ne.symm r2)).trans (up_row (Ne.symm r1)))) (fun j hj => by
          rw [hpe j (by omega)]
          by_cases c : j = k
          · simp only [if_pos c]
            subst c
            refine ⟨hp, he, ⟨by omega, by omega, fun q h1 h2 => hsp q h1 h2, fun _ => c32⟩, ?_, up_at⟩
            rw [up_row (Ne.symm r3), up_at]
          · simp only [if_neg c]
            rw [up_row (Ne.symm r3), up_ne (Or.inr c), up_ne (Or.inr c), up_row r3]
            exact hA j (by omega)) (by rw [hpk]; exact he.2.1) (by
          rw [hpk]
          intro z
          refine ⟨by omega, ?_⟩
          simp only [if_pos (show k + 1 - 1 = k by omega)]
          omega) (by rw [hpk]; intro q h1 h2; have := he.1; omega)
        exact ⟨n, pl', en', m', f1, f2, f3, fun q h1 h2 => (f4 q h1 h2).trans ((up_row h2).trans (up_row h1))⟩
end CUT
