/-! THE TEXT READ, step for step in both -/
def pC (σ q k : Nat) : Prop := (q = rp 1 0 ∧ (k = 8 ∨ k = 12)) ∨ ((q = rp 1 5 ∨ q = rp 1 6 ∨ q = rp 1 7) ∧ σ ≤ k)
def pR (σ q k : Nat) : Prop := (q = 0 ∧ 6 ≤ k ∧ k ≤ 11) ∨ (q = 1 ∧ (k = 7 ∨ (103 + 3 * σ ≤ k ∧ k < 553)))
theorem pC_mono {σ τ : Nat} (h : σ ≤ τ) : ∀ q k, pC τ q k → pC σ q k := by intro q k; unfold pC; omega
theorem pR_mono {σ τ : Nat} (h : σ ≤ τ) : ∀ q k, pR τ q k → pR σ q k := by intro q k; unfold pR; omega
theorem cmpN_cat (s : Nat → Int32) : ∀ d k e, cmpN s k (d + e) = cmpN s k d + cmpN s (k + d) e := by
  intro d
  induction d with
  | zero => intro k e; rw [Nat.zero_add, cmpN, Nat.zero_add, Nat.add_zero]
  | succ d ih => intro k e; rw [show d + 1 + e = d + e + 1 by omega, cmpN, cmpN, ih, show k + 1 + d = k + (d + 1) by omega]; omega
theorem cmpN_same {s t : Nat → Int32} : ∀ d k, (∀ j, j < 103 + 3 * (k + d) → 103 ≤ j → t j = s j) → cmpN t k d = cmpN s k d := by
  intro d
  induction d with
  | zero => intro k _; rfl
  | succ d ih => intro k h; rw [cmpN, cmpN, h (103 + 3 * k) (by omega) (by omega), ih (k + 1) (fun j h1 h2 => h j (by omega) h2)]
section PAR
variable (b : Nat → Nat) (N n : Nat) (pl en : Nat → Nat)
def Txt : Prop := N ≤ 200 ∧ (∀ k, k < N → b k < 256) ∧ Chain b N n pl en
abbrev Tk (i : Nat) : Int32 := tokV b N (pl i) (en i)
def CurC (i : Nat) (m : Mm) : Prop := m (rp 1 0) 12 = nI i ∧ ∀ k, k ≤ n → m (rp 1 8) k = Tk b N pl en k ∧ m (rp 1 9) k = nI (pl k)
def Gd (i σ d : Nat) (mc mr : Mm) : Prop := i ≤ n ∧ CurC b N n pl en i mc ∧ RT mr b N ∧ AtTok b N (pl i) (en i) mr ∧ mr 0 10 = 0 ∧ mr 0 11 = nI d ∧ mc (rp 1 0) 8 = nI σ ∧ mr 1 7 = nI σ ∧ 2 * σ ≤ pl i ∧ StepsIs 1 mc (mr 1) σ
def Bad (i : Nat) (mc mr : Mm) : Prop := i ≤ n ∧ CurC b N n pl en i mc ∧ RT mr b N ∧ AtTok b N (pl i) (en i) mr ∧ mr 0 10 = 1
/-- how far it came since -/
def Acc (I P σ : Nat) (mc mr : Mm) (i τ : Nat) (mc' mr' : Mm) : Prop := Ce (pC σ) mc mc' ∧ Ce (pR σ) mr mr' ∧ I < i ∧ σ ≤ τ ∧ 2 * τ + P ≤ 2 * σ + pl i ∧ 5 * cmpN (mr' 1) σ (τ - σ) + P ≤ pl i + 2
def Out (I P σ d : Nat) (mc mr : Mm) (fc fr : Option (Int32 × Mm)) : Prop :=
  (∃ i τ mc' mr', fc = some (1, mc') ∧ fr = some (0, mr') ∧ Gd b N n pl en i τ d mc' mr' ∧ Acc pl I P σ mc mr i τ mc' mr') ∨
  (∃ i mc' mr', fc = some (0, mc') ∧ fr = some (0, mr') ∧ Ce (pC σ) mc mc' ∧ Ce (pR σ) mr mr' ∧ Bad b N n pl en i mc' mr')
end PAR
section PA2
variable {b : Nat → Nat} {N n : Nat} {pl en : Nat → Nat} {i σ d : Nat} {mc mr : Mm}
theorem Txt.e_ok (hX : Txt b N n pl en) (hi : i ≤ n) : EndOk b N (pl i) (en i) := by
  obtain ⟨-, -, -, h1, -, h2, h3⟩ := hX
  by_cases c : i = n
  · subst c; exact Or.inl ⟨h2, h3⟩
  · exact Or.inr (h1 i (by omega))
theorem Txt.step (hX : Txt b N n pl en) (hi : i < n) : pl i < en i ∧ en i ≤ pl (i + 1) ∧ pl (i + 1) ≤ N ∧ Sp b N (en i) (pl (i + 1)) := by
  obtain ⟨-, -, -, h1, h2, -⟩ := hX
  have h := h2 (i + 1) (by omega)
  have e : pe en (i + 1) = en i := if_neg (by omega)
  rw [e] at h
  exact ⟨(h1 i hi).2.1, h.1, h.2.1, h⟩
theorem Txt.le (hX : Txt b N n pl en) (hi : i ≤ n) : pl i ≤ N := by
  rcases hX.e_ok hi with ⟨h, -⟩ | ⟨h, -⟩ <;> omega
theorem Txt.tk_end (hX : Txt b N n pl en) (hi : i ≤ n) : Tk b N pl en i = -1 ↔ i = n := by
  constructor
  · intro h
    have := end_t (hX.e_ok hi) h hX.2.1 hX.1
    refine Classical.byContradiction fun ne => this ?_
    exact (hX.2.2.2.1 i (by omega)).1
  · intro h
    subst h
    unfold Tk tokV
    exact if_pos (by rw [hX.2.2.2.2.2.1]; exact Nat.le_refl _)
theorem Txt.lt (hX : Txt b N n pl en) (hi : i ≤ n) {t : Nat} (ht : t < 2 ^ 31) (h : Tk b N pl en i = nI t) : i < n := by
  rcases Nat.lt_or_ge i n with c | c
  · exact c
  · have := (hX.tk_end hi).mpr (by omega)
    exact absurd (this.symm.trans h) (n_m1 ht)
theorem Txt.n_le (hX : Txt b N n pl en) : n ≤ 200 := Nat.le_trans hX.2.2.1 hX.1
theorem AtTok.of {s e : Nat} {m m' : Mm} (h : AtTok b N s e m) (f : ∀ k, 6 ≤ k → k ≤ 9 → m' 0 k = m 0 k) : AtTok b N s e m' := by
  obtain ⟨a, c, d, e⟩ := h
  exact ⟨by rw [f 7 (by decide) (by decide)]; exact a, by rw [f 8 (by decide) (by decide)]; exact c, by rw [f 6 (by decide) (by decide)]; exact d, by rw [f 9 (by decide) (by decide)]; exact e⟩
theorem RT.of {m m' : Mm} (h : RT m b N) (h5 : m' 0 5 = m 0 5) (h4 : m' 4 = m 4) : RT m' b N := ⟨h5.trans h.1, fun k hk => by rw [h4]; exact h.2 k hk⟩
theorem rp_ne {k k' : Nat} (h : k ≠ k') : rp 1 k ≠ rp 1 k' := by unfold rp; omega
/-- on to the next token -/
theorem next_b (hX : Txt b N n pl en) (h : Gd b N n pl en i σ d mc mr) (hi : i < n) :
    fX8_next 1 mc = some (0, up mc (rp 1 0) 12 (nI (i + 1))) ∧ ∃ mr', fX12_nextToken mr = some (0, mr') ∧ Gd b N n pl en (i + 1) σ d (up mc (rp 1 0) 12 (nI (i + 1))) mr' ∧ ∀ τ, Ce (pC τ) mc (up mc (rp 1 0) 12 (nI (i + 1))) ∧ Ce (pR τ) mr mr' := by
  obtain ⟨-, ⟨c1, c2⟩, hT, hA, h10, h11, h8, h7, h2, hS⟩ := h
  obtain ⟨l1, l2, l3, l4⟩ := hX.step hi
  have n200 := hX.n_le
  refine ⟨?_, ?_⟩
  · unfold fX8_next
    rw [c1, if_neg (show ¬ (200 : Int32) ≤ nI i from nI_ge (b := 200) (by omega) (by decide)), lt_v, p1]
  · obtain ⟨mr', e1, e2, e3⟩ := nextToken_r hX.1 l4 (hX.e_ok (show i + 1 ≤ n by omega)) hT hA.2.1
    refine ⟨mr', e1, ⟨by omega, ⟨up_at, fun k hk => ?_⟩, hT.fp e2, e3, (e2.2 10 (by omega)).trans h10, (e2.2 11 (by omega)).trans h11, (up_ne (Or.inr (by decide))).trans h8, by rw [e2.1 1 (by decide)]; exact h7, by omega, ?_⟩, fun τ => ⟨fun q k hq => up_ne ?_, fun q k hq => ?_⟩⟩
    · rw [up_row (rp_ne (by decide)), up_row (rp_ne (by decide))]
      exact c2 k hk
    · intro k hk
      rw [e2.1 1 (by decide), up_row (rp_ne (by decide)), up_row (rp_ne (by decide)), up_row (rp_ne (by decide))]
      exact hS k hk
    · unfold pC at hq; omega
    · unfold pR at hq
      by_cases c : q = 0
      · subst c; exact e2.2 k (by omega)
      · rw [e2.1 q c]
theorem needs_ok (h : mr 0 10 = 0) : fX12_needs 1 mr = bd (fX12_nextToken mr) fun _ m => some (0, m) := by
  unfold fX12_needs fX12_needs_17
  rw [if_pos h, if_neg (show ¬ (1 : Int32) = 0 by decide), gb_0, lt_v, show up mr 0 10 0 = mr from by rw [← h]; exact up_same, if_pos h]
theorem needs_no (h : mr 0 10 = 0) : fX12_needs 0 mr = some (0, up mr 0 10 1) := by
  unfold fX12_needs fX12_needs_17
  rw [if_pos h, if_pos rfl, gb_1, lt_v, up_at, if_neg (by decide)]
theorem needs_bad (h : mr 0 10 = 1) (x : Int32) : fX12_needs x mr = some (0, mr) := by
  unfold fX12_needs fX12_needs_17
  rw [if_neg (show ¬ mr 0 10 = 0 by rw [h]; decide), gb_1, lt_v, show up mr 0 10 1 = mr from by rw [← h]; exact up_same, if_neg (show ¬ mr 0 10 = 0 by rw [h]; decide)]
theorem steps_bad (h : mr 0 10 = 1) (x y z : Int32) : fX12_steps x y z mr = some (0, mr) := by
  unfold fX12_steps
  rw [if_neg (show ¬ mr 0 10 = 0 by rw [h]; decide)]
theorem Gd.bad (h : Gd b N n pl en i σ d mc mr) : Bad b N n pl en i mc (up mr 0 10 1) := by
  obtain ⟨hi, hC, hT, hA, -⟩ := h
  exact ⟨hi, hC, hT.of (up_ne (Or.inr (by decide))) (up_row (by decide)), hA.of (fun k h1 h2 => up_ne (Or.inr (by omega))), up_at⟩
theorem Bad.open_ (h : Bad b N n pl en i mc mr) (v : Int32) : Bad b N n pl en i mc (up mr 0 11 v) := by
  obtain ⟨hi, hC, hT, hA, h10⟩ := h
  exact ⟨hi, hC, hT.of (up_ne (Or.inr (by decide))) (up_row (by decide)), hA.of (fun k h1 h2 => up_ne (Or.inr (by omega))), (up_ne (Or.inr (by decide))).trans h10⟩
theorem Gd.open_ (h : Gd b N n pl en i σ d mc mr) (e : Nat) : Gd b N n pl en i σ e mc (up mr 0 11 (nI e)) := by
  obtain ⟨hi, hC, hT, hA, h10, h11, h8, h7, h2, hS⟩ := h
  exact ⟨hi, hC, hT.of (up_ne (Or.inr (by decide))) (up_row (by decide)), hA.of (fun k h1 h2 => up_ne (Or.inr (by omega))), (up_ne (Or.inr (by decide))).trans h10, up_at, h8, (congrFun (up_row (by decide)) 7).trans h7, h2, by rw [up_row (by decide)]; exact hS⟩
theorem pR_up {σ k : Nat} {m0 m : Mm} {v : Int32} (h : Ce (pR σ) m0 m) (hk : 6 ≤ k ∧ k ≤ 11) : Ce (pR σ) m0 (up m 0 k v) := h.up (by unfold pR; omega)
/-- one more step -/
theorem add_b (hX : Txt b N n pl en) (h : Gd b N n pl en i σ d mc mr) (h2 : 2 * (σ + 1) ≤ pl i) {a l r x y z : Int32} (hs : StepIs a l r x y z) :
    ∃ mc' mr', fX8_add 1 a l r mc = some (0, mc') ∧ fX12_steps x y z mr = some (0, mr') ∧ Gd b N n pl en i (σ + 1) d mc' mr' ∧ Ce (pC σ) mc mc' ∧ Ce (pR σ) mr mr' ∧ mr' 1 (103 + 3 * σ) = x := by
  obtain ⟨hi, ⟨c1, c2⟩, hT, hA, h10, h11, h8, h7, -, hS⟩ := h
  have hN := hX.1
  have hle := hX.le hi
  have s100 : σ < 100 := by omega
  have r05 : rp 1 0 ≠ rp 1 5 := rp_ne (by decide)
  have r06 : rp 1 0 ≠ rp 1 6 := rp_ne (by decide)
  have r07 : rp 1 0 ≠ rp 1 7 := rp_ne (by decide)
  refine ⟨up (up (up (up mc (rp 1 5) σ a) (rp 1 6) σ l) (rp 1 7) σ r) (rp 1 0) 8 (nI (σ + 1)), up (up (up (up mr 1 (103 + 3 * σ) x) 1 (103 + 3 * σ + 1) y) 1 (103 + 3 * σ + 2) z) 1 7 (nI (σ + 1)), ?_, ?_, ?_, ?_, ?_, ?_⟩
  · unfold fX8_add
    have g : nI σ < 200 := nI_lt (b := 200) (by omega) (by decide)
    rw [h8, if_pos g, gx_n (by omega) (by decide), ix_n (by omega), lt_v, up_row r05, h8, gx_n (by omega) (by decide), ix_n (by omega), lt_v, up_row r06, up_row r05, h8, gx_n (by omega) (by decide), ix_n (by omega), lt_v, up_row r07, up_row r06, up_row r05, h8, lt_v, p1]
  · unfold fX12_steps
    rw [if_pos h10, h7, e_step, gx_n (by omega) (by decide), ix_n (by omega), lt_v, up_ne (Or.inr (by omega)), h7, e_step, p1, gx_n (by omega) (by decide), ix_n (by omega), lt_v, up_ne (Or.inr (by omega)), up_ne (Or.inr (by omega)), h7, e_step, p2, gx_n (by omega) (by decide), ix_n (by omega), lt_v, up_ne (Or.inr (by omega)), up_ne (Or.inr (by omega)), up_ne (Or.inr (by omega)), h7, lt_v, p1]
  · refine ⟨hi, ⟨?_, fun k hk => ?_⟩, hT.of ?_ ?_, hA.of fun k h1 h2 => ?_, ?_, ?_, up_at, up_at, h2, fun k hk => ?_⟩
    · rw [up_ne (Or.inr (by decide)), up_row r07, up_row r06, up_row r05]; exact c1
    · rw [up_row (rp_ne (by decide)), up_row (rp_ne (by decide)), up_row (rp_ne (by decide)), up_row (rp_ne (by decide)), up_row (rp_ne (by decide)), up_row (rp_ne (by decide)), up_row (rp_ne (by decide)), up_row (rp_ne (by decide))]
      exact c2 k hk
    · rw [up_row (by decide), up_row (by decide), up_row (by decide), up_row (by decide)]
    · rw [up_row (by decide), up_row (by decide), up_row (by decide), up_row (by decide)]
    · rw [up_row (by decide), up_row (by decide), up_row (by decide), up_row (by decide)]
    · rw [up_row (by decide), up_row (by decide), up_row (by decide), up_row (by decide)]; exact h10
    · rw [up_row (by decide), up_row (by decide), up_row (by decide), up_row (by decide)]; exact h11
    · have q5 : up (up (up (up mc (rp 1 5) σ a) (rp 1 6) σ l) (rp 1 7) σ r) (rp 1 0) 8 (nI (σ + 1)) (rp 1 5) k = (if k = σ then a else mc (rp 1 5) k) := by
        rw [up_row (Ne.symm r05), up_row (rp_ne (k := 5) (k' := 7) (by decide)), up_row (rp_ne (k := 5) (k' := 6) (by decide)), up_app, if_pos rfl]
      have q6 : up (up (up (up mc (rp 1 5) σ a) (rp 1 6) σ l) (rp 1 7) σ r) (rp 1 0) 8 (nI (σ + 1)) (rp 1 6) k = (if k = σ then l else mc (rp 1 6) k) := by
        rw [up_row (Ne.symm r06), up_row (rp_ne (k := 6) (k' := 7) (by decide)), up_app, if_pos rfl, up_row (rp_ne (k := 6) (k' := 5) (by decide))]
      have q7 : up (up (up (up mc (rp 1 5) σ a) (rp 1 6) σ l) (rp 1 7) σ r) (rp 1 0) 8 (nI (σ + 1)) (rp 1 7) k = (if k = σ then r else mc (rp 1 7) k) := by
        rw [up_row (Ne.symm r07), up_app, if_pos rfl, up_row (rp_ne (k := 7) (k' := 6) (by decide)), up_row (rp_ne (k := 7) (k' := 5) (by decide))]
      rw [q5, q6, q7]
      by_cases c : k = σ
      · subst c
        rw [if_pos rfl, if_pos rfl, if_pos rfl]
        rw [up_ne (Or.inr (by omega)), up_ne (Or.inr (by omega)), up_ne (Or.inr (by omega)), up_at]
        rw [up_ne (Or.inr (by omega)), up_ne (Or.inr (by omega)), up_at]
        rw [up_ne (Or.inr (by omega)), up_at]
        exact hs
      · rw [if_neg c, if_neg c, if_neg c]
        rw [up_ne (Or.inr (by omega)), up_ne (Or.inr (by omega)), up_ne (Or.inr (by omega)), up_ne (Or.inr (by omega))]
        rw [up_ne (Or.inr (by omega)), up_ne (Or.inr (by omega)), up_ne (Or.inr (by omega)), up_ne (Or.inr (by omega))]
        rw [up_ne (Or.inr (by omega)), up_ne (Or.inr (by omega)), up_ne (Or.inr (by omega)), up_ne (Or.inr (by omega))]
        exact hS k (by omega)
  · exact (((Ce.rf.up (by unfold pC; omega)).up (by unfold pC; omega)).up (by unfold pC; omega)).up (by unfold pC; omega)
  · exact (((Ce.rf.up (by unfold pR; omega)).up (by unfold pR; omega)).up (by unfold pR; omega)).up (by unfold pR; omega)
  · rw [up_ne (Or.inr (by omega)), up_ne (Or.inr (by omega)), up_ne (Or.inr (by omega)), up_at]
theorem opd_fact : ∀ w, w < 18 → 13 ≤ w → (12 : Int32) - nI w = -1 - nI (w - 13) ∧ (10000 : Int32) + nI (w - 13) = nI (10000 + (w - 13)) := by decide +kernel
/-- a value -/
theorem val_b (hX : Txt b N n pl en) (h : Gd b N n pl en i σ d mc mr) :
    (i < n ∧ (∀ m, fX8_isValue (Tk b N pl en i) m = some (1, m)) ∧ ∃ v l mr', fX12_valueHere mr = some (v, mr') ∧ (∀ m, fX8_operand (Tk b N pl en i) m = some (l, m)) ∧ OpIs l v ∧ Gd b N n pl en (i + 1) σ d (up mc (rp 1 0) 12 (nI (i + 1))) mr' ∧ ∀ τ, Ce (pR τ) mr mr') ∨
    ((∀ m, fX8_isValue (Tk b N pl en i) m = some (0, m)) ∧ ∃ v, fX12_valueHere mr = some (v, up mr 0 10 1)) := by
  have h0 := h
  obtain ⟨hi, -, hT, hA, h10, -⟩ := h
  have hE := hX.e_ok hi
  have hN := hX.1
  have hb := hX.2.1
  obtain ⟨r, f1, f2⟩ := res_t hb hN hE (by decide) (by decide) (factH_r hT hN hA hE)
  have e53 : ∀ x, fX12_valueHere_53 x 1 mr = bd (fX12_nextToken mr) fun _ m => some (x, m) := fun x => by
    unfold fX12_valueHere_53
    rw [needs_ok h10]
    cases fX12_nextToken mr with
    | none => rfl
    | some q => rfl
  have e50 : ∀ x, fX12_valueHere_53 x 0 mr = some (x, up mr 0 10 1) := fun x => by
    unfold fX12_valueHere_53
    rw [needs_no h10, bd_s]
  unfold fX12_valueHere
  rw [f1, bd_s]
  rcases f2 with ⟨w, w1, w2, w3, rfl⟩ | ⟨rfl, w1⟩
  · left
    have w3' : Tk b N pl en i = nI w := w3
    have hin := hX.lt hi (by omega) w3'
    obtain ⟨-, mr', n1, n2, n3⟩ := next_b hX h0 hin
    obtain ⟨o1, o2⟩ := opd_fact w (by omega) w1
    refine ⟨hin, fun m => ?_, nI (10000 + (w - 13)), 12 - nI w, mr', ?_, fun m => ?_, ?_, n2, fun τ => (n3 τ).2⟩
    · unfold fX8_isValue
      rw [w3', if_neg (show ¬ (1000 : Int32) ≤ nI w from nI_ge (b := 1000) (by omega) (by decide)), if_neg (show ¬ nI w < 13 from nI_nlt (b := 13) (by omega) (by omega)), if_neg (show ¬ (17 : Int32) < nI w from nI_nlt (a := 17) (by omega) (by decide))]
    · rw [if_neg (nI_pos (by omega))]
      unfold fX12_valueHere_21
      rw [if_pos (nI_pos' (by omega)), e53, n1, bd_s, o2]
    · unfold fX8_operand
      rw [w3', if_pos (show nI w < 1000 from nI_lt (b := 1000) (by omega) (by decide))]
    · exact Or.inr ⟨w - 13, by omega, o1, rfl⟩
  · rw [if_pos (show (-1 : Int32) < 0 by decide)]
    unfold fX12_valueHere_21
    rw [if_neg (show ¬ (0 : Int32) ≤ -1 by decide)]
    obtain ⟨a7, a8, a6, a9⟩ := hA
    have hse : pl i ≤ en i := by
      rcases hE with ⟨z1, z2⟩ | ⟨-, z, -⟩ <;> omega
    have heN : en i ≤ N := by
      rcases hE with ⟨z1, z2⟩ | ⟨-, -, z, -⟩ <;> omega
    rw [a6, a7, a8, pk_sub hse]
    have hk : kdN b N (pl i) ≤ 3 := by unfold kdN; repeat' split
                                       all_goals omega
    rcases num_t hb hN hE with ⟨k1, k2, v, v1, v2, v3⟩ | ⟨k1, k2⟩
    · left
      have v2' : Tk b N pl en i = nI (1000 + v) := v2
      have hin := hX.lt hi (by omega) v2'
      obtain ⟨-, mr', n1, n2, n3⟩ := next_b hX h0 hin
      refine ⟨hin, fun m => ?_, nI v, nI v, mr', ?_, fun m => ?_, Or.inl ⟨v, v1, rfl, rfl⟩, n2, fun τ => (n3 τ).2⟩
      · unfold fX8_isValue
        rw [v2', if_pos (show (1000 : Int32) ≤ nI (1000 + v) from nI_le (a := 1000) (by omega) (by omega))]
      · rw [if_pos (show nI (kdN b N (pl i)) = 2 by rw [k1]; rfl), if_neg (show ¬ (4 : Int32) < nI (en i - pl i) from nI_nlt (a := 4) k2 (by decide)), e53, n1, bd_s, a9 k1 k2, v3]
      · unfold fX8_operand
        rw [v2', if_neg (show ¬ nI (1000 + v) < 1000 from nI_nlt (b := 1000) (by omega) (by omega)), show (1000 : Int32) = nI 1000 from rfl, pk_sub (by omega), show 1000 + v - 1000 = v by omega]
    · right
      refine ⟨fun m => ?_, mr 0 9, ?_⟩
      · unfold fX8_isValue
        rw [if_neg (Int32.not_le.mpr k2)]
        rcases w1 with w1 | ⟨w1, w2⟩
        · rw [if_pos (show Tk b N pl en i < 13 from w1)]
        · rw [if_neg (show ¬ Tk b N pl en i < 13 from w1), if_pos (show 17 < Tk b N pl en i from w2)]
      · by_cases c : kdN b N (pl i) = 2
        · rw [if_pos (show nI (kdN b N (pl i)) = 2 by rw [c]; rfl), if_pos (show (4 : Int32) < nI (en i - pl i) from nI_lt (a := 4) (by
            refine Nat.not_le.mp fun z => k1 ⟨c, z⟩) (by omega)), e50]
        · rw [if_neg (show ¬ nI (kdN b N (pl i)) = 2 from fun z => c ((nI_eq (a := kdN b N (pl i)) (b := 2) (by omega) (by decide)).mp z)), e50]
theorem val_bad (hX : Txt b N n pl en) (h : Bad b N n pl en i mc mr) : ∃ v, fX12_valueHere mr = some (v, mr) := by
  obtain ⟨hi, -, hT, hA, h10⟩ := h
  obtain ⟨r, f1, -⟩ := factH_r hT hX.1 hA (hX.e_ok hi)
  have e53 : ∀ x s, fX12_valueHere_53 x s mr = some (x, mr) := fun x s => by
    unfold fX12_valueHere_53
    rw [needs_bad h10, bd_s]
  have e21 : ∀ x s, fX12_valueHere_21 x s mr = some (s, mr) := fun x s => by
    unfold fX12_valueHere_21
    rw [e53, e53]
    repeat' split
    all_goals rfl
  unfold fX12_valueHere
  rw [f1, bd_s, e21, e21]
  split
  · exact ⟨_, rfl⟩
  · exact ⟨_, rfl⟩
theorem byte_any (hX : Txt b N n pl en) (hi : i ≤ n) (hT : RT mr b N) (hA : AtTok b N (pl i) (en i) mr) {c : Nat} (hc : c < 256) : fX12_isByte (nI c) mr = some (b2 (decide (Tk b N pl en i = nI (256 + c))), mr) := isByte_t hT hX.1 hA (hX.e_ok hi) hc
/-- a comparison that has already failed -/
theorem cmp66_bad (hX : Txt b N n pl en) (h : Bad b N n pl en i mc mr) (x1 x2 s0 : Int32) : fX12_comparesHere_66 x1 x2 s0 mr = some (0, mr) := by
  unfold fX12_comparesHere_66
  obtain ⟨v, hv⟩ := val_bad hX h
  rw [needs_bad h.2.2.2.2, bd_s, hv, bd_s, steps_bad h.2.2.2.2, bd_s]
/-- which sign -/
theorem sign_r (hX : Txt b N n pl en) (hi : i ≤ n) (hT : RT mr b N) (hA : AtTok b N (pl i) (en i) mr) (x1 : Int32) :
    (∃ s, s ≤ 2 ∧ Tk b N pl en i = nI (316 + s) ∧ (bd (fX12_isByte (60 : Int32) mr) fun r_4 m_5 => (if r_4 = 0 then bd (fX12_isByte (61 : Int32) m_5) fun r_8 m_9 => (if r_8 = 0 then (fX12_comparesHere_32 x1 2 m_9) else (fX12_comparesHere_32 x1 1 m_9)) else (fX12_comparesHere_32 x1 0 m_5))) = fX12_comparesHere_66 x1 (nI s) 1 mr) ∨
    ((Tk b N pl en i < 316 ∨ ¬ Tk b N pl en i ≤ 318) ∧ (bd (fX12_isByte (60 : Int32) mr) fun r_4 m_5 => (if r_4 = 0 then bd (fX12_isByte (61 : Int32) m_5) fun r_8 m_9 => (if r_8 = 0 then (fX12_comparesHere_32 x1 2 m_9) else (fX12_comparesHere_32 x1 1 m_9)) else (fX12_comparesHere_32 x1 0 m_5))) = fX12_comparesHere_66 x1 2 0 mr) := by
  have b60 : fX12_isByte 60 mr = some (b2 (decide (Tk b N pl en i = nI 316)), mr) := byte_any hX hi hT hA (c := 60) (by decide)
  have b61 : fX12_isByte 61 mr = some (b2 (decide (Tk b N pl en i = nI 317)), mr) := byte_any hX hi hT hA (c := 61) (by decide)
  have b62 : fX12_isByte 62 mr = some (b2 (decide (Tk b N pl en i = nI 318)), mr) := byte_any hX hi hT hA (c := 62) (by decide)
  unfold fX12_comparesHere_32
  rw [b60, bd_s]
  by_cases c0 : Tk b N pl en i = nI 316
  · left
    refine ⟨0, by decide, c0, ?_⟩
    rw [decide_eq_true c0, if_neg b2t, b60, bd_s, decide_eq_true c0, if_neg b2t]; rfl
  rw [decide_eq_false c0, if_pos b2f, b61, bd_s]
  by_cases c1 : Tk b N pl en i = nI 317
  · left
    refine ⟨1, by decide, c1, ?_⟩
    rw [decide_eq_true c1, if_neg b2t, b60, bd_s, decide_eq_false c0, if_pos b2f, b61, bd_s, decide_eq_true c1, if_neg b2t]; rfl
  rw [decide_eq_false c1, if_pos b2f, b60, bd_s, decide_eq_false c0, if_pos b2f, b61, bd_s, decide_eq_false c1, if_pos b2f, b62, bd_s]
  by_cases c2 : Tk b N pl en i = nI 318
  · left
    refine ⟨2, by decide, c2, ?_⟩
    rw [decide_eq_true c2, if_neg b2t]; rfl
  right
  refine ⟨?_, by rw [decide_eq_false c2, if_pos b2f]⟩
  rcases tvn hX.2.1 hX.1 (hX.e_ok hi) with k | k | ⟨t, t1, k⟩
  · left
    show tokV b N (pl i) (en i) < 316
    rw [k]; decide
  · left
    show tokV b N (pl i) (en i) < 316
    rw [k]; decide
  · have k' : Tk b N pl en i = nI t := k
    rw [k'] at c0 c1 c2 ⊢
    have d0 : t ≠ 316 := fun z => c0 (by rw [z])
    have d1 : t ≠ 317 := fun z => c1 (by rw [z])
    have d2 : t ≠ 318 := fun z => c2 (by rw [z])
    by_cases z : t < 316
    · exact Or.inl (nI_lt (b := 316) z (by decide))
    · exact Or.inr (nI_ge (a := 318) (by omega) (by omega))
theorem stepIs_cmp {s : Nat} (hs : s ≤ 2) {l r y z : Int32} (h1 : OpIs l y) (h2 : OpIs r z) : StepIs (nI (316 + s)) l r (nI s) y z := by
  unfold StepIs
  rcases (show s = 0 ∨ s = 1 ∨ s = 2 by omega) with rfl | rfl | rfl
  · exact Or.inl ⟨rfl, rfl, h1, h2⟩
  · exact Or.inr (Or.inl ⟨rfl, rfl, h1, h2⟩)
  · exact Or.inr (Or.inr (Or.inl ⟨rfl, rfl, h1, h2⟩))
theorem compare_b (hX : Txt b N n pl en) (h : Gd b N n pl en i σ d mc mr) : Out b N n pl en i (pl i) σ d mc mr (fX8_readCompare 1 mc) (fX12_comparesHere mr) := by
  have n200 := hX.n_le
  have hat : ∀ {j τ d mc mr}, Gd b N n pl en j τ d mc mr → mc (rp 1 0) 12 = nI j ∧ mc (rp 1 8) j = Tk b N pl en j ∧ j ≤ n := fun h => ⟨h.2.1.1, (h.2.1.2 _ h.1).1, h.1⟩
  obtain ⟨a1, a2, a3⟩ := hat h
  unfold fX8_readCompare fX12_comparesHere
  rw [a1, gx_n (by omega) (by decide), ix_n (by omega), lt_v, a2]
  rcases val_b hX h with ⟨hin, v1, v, l, mr1, v2, v3, v4, g1, f1⟩ | ⟨v1, v, v2⟩
  · rw [v1, bd_s, if_neg (show ¬ (1 : Int32) = 0 by decide), v2, bd_s, (next_b hX h hin).1, bd_s]
    have fc1 := fun τ => ((next_b hX h hin).2.choose_spec.2.2 τ).1
    have b1 := hat g1
    have s1 := hX.step hin
    rw [b1.1, gx_n (by omega) (by decide), ix_n (by omega), b1.2.1, lt_v]
    rcases sign_r hX g1.1 g1.2.2.1 g1.2.2.2.1 v with ⟨s, hs, t1, t2⟩ | ⟨t1, t2⟩
    · have hin1 := hX.lt g1.1 (by omega) t1
      have s2 := hX.step hin1
      obtain ⟨nx, mr2, n1, g2, f2⟩ := next_b hX g1 hin1
      rw [t2, t1, if_neg (show ¬ nI (316 + s) < 316 from nI_nlt (b := 316) (by omega) (by omega)), if_pos (show nI (316 + s) ≤ 318 from nI_le (b := 318) (by omega) (by decide)), nx, bd_s]
      unfold fX12_comparesHere_66
      rw [needs_ok g1.2.2.2.2.1, n1, bd_s, bd_s]
      obtain ⟨c1, c2, c3⟩ := hat g2
      rw [c1, gx_n (by omega) (by decide), ix_n (by omega), c2, lt_v]
      rcases val_b hX g2 with ⟨hin2, u1, u, k, mr3, u2, u3, u4, g3, f3⟩ | ⟨u1, u, u2⟩
      · have s3 := hX.step hin2
        have nx2 := next_b hX g2 hin2
        obtain ⟨mc4, mr4, q1, q2, q3, q4, q5, q6⟩ := add_b hX g3 (by have := h.2.2.2.2.2.2.2.2.1; omega) (stepIs_cmp hs v4 u4)
        rw [u1, bd_s, if_neg (show ¬ (1 : Int32) = 0 by decide), nx2.1, bd_s, v3, bd_s, u3, bd_s, q1, bd_s, u2, bd_s, q2, bd_s]
        refine Or.inl ⟨i + 1 + 1 + 1, σ + 1, mc4, mr4, rfl, rfl, q3, ((fc1 σ).tr ((f2 σ).1.tr (nx2.2.choose_spec.2.2 σ).1)).tr q4, (((f1 σ).tr (f2 σ).2).tr (f3 σ)).tr q5, by omega, by omega, by omega, ?_⟩
        have : cmpN (mr4 1) σ (σ + 1 - σ) ≤ 1 := by
          rw [show σ + 1 - σ = 0 + 1 by omega, cmpN, cmpN]
          split <;> omega
        omega
      · rw [u1, bd_s, if_pos rfl, u2, bd_s, steps_bad up_at, bd_s]
        exact Or.inr ⟨i + 1 + 1, _, _, rfl, rfl, (fc1 σ).tr (f2 σ).1, pR_up ((f1 σ).tr (f2 σ).2) (by decide), g2.bad⟩
    · rw [t2]
      unfold fX12_comparesHere_66
      obtain ⟨u, u1⟩ := val_bad hX g1.bad
      rw [needs_no g1.2.2.2.2.1, bd_s, u1, bd_s, steps_bad up_at, bd_s]
      have cls : (if Tk b N pl en (i + 1) < 316 then some ((0 : Int32), up mc (rp 1 0) 12 (nI (i + 1))) else if Tk b N pl en (i + 1) ≤ 318 then
          bd (fX8_next 1 (up mc (rp 1 0) 12 (nI (i + 1)))) fun r_16 m_17 => gx (m_17 (rp 1 0) 12) 201 (lt (m_17 (rp 1 8) (ix (m_17 (rp 1 0) 12))) fun x3_20 => bd (fX8_isValue x3_20 m_17) fun r_22 m_23 => (if r_22 = 0 then some (0, m_23) else bd (fX8_next 1 m_23) fun r_26 m_27 => bd (fX8_operand (Tk b N pl en i) m_27) fun r_29 m_30 => bd (fX8_operand x3_20 m_30) fun r_32 m_33 => bd (fX8_add 1 (Tk b N pl en (i + 1)) r_29 r_32 m_33) fun r_35 m_36 => some (1, m_36)))
          else some (0, up mc (rp 1 0) 12 (nI (i + 1)))) = some (0, up mc (rp 1 0) 12 (nI (i + 1))) := by
        rcases t1 with t1 | t1
        · rw [if_pos t1]
        · rw [if_neg t1]
          split <;> rfl
      rw [cls]
      exact Or.inr ⟨i + 1, _, _, rfl, rfl, fc1 σ, pR_up (f1 σ) (by decide), g1.bad⟩
  · rw [v1, bd_s, if_pos rfl, v2, bd_s]
    have hb := h.bad
    have tail : (bd (fX12_isByte (60 : Int32) (up mr 0 10 1)) fun r_4 m_5 => (if r_4 = 0 then bd (fX12_isByte (61 : Int32) m_5) fun r_8 m_9 => (if r_8 = 0 then (fX12_comparesHere_32 v 2 m_9) else (fX12_comparesHere_32 v 1 m_9)) else (fX12_comparesHere_32 v 0 m_5))) = some (0, up mr 0 10 1) := by
      rcases sign_r hX hb.1 hb.2.2.1 hb.2.2.2.1 v with ⟨s, -, -, t2⟩ | ⟨-, t2⟩
      · rw [t2, cmp66_bad hX hb]
      · rw [t2, cmp66_bad hX hb]
    rw [tail]
    exact Or.inr ⟨i, mc, _, rfl, rfl, Ce.rf, pR_up Ce.rf (by decide), hb⟩
end PA2
