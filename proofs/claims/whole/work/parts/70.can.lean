/-! the reference's way: which sets of sets can be done, minute by minute -/
section CA
variable {n S U T L : Nat} {m : Mm}
theorem can47_r {K : Int32 → Int32 → Int32 → Int64 → Int32 → Int64 → Int32 → Mm → Option (Int32 × Mm)} {x2 : Int32} {c t o : Nat} (hn : GymOk (m 1) n) (ho : o < n) (hS : S < 64) (ht : t < 31) (hc : c < 2 ^ 64) :
    ∀ (d k q v : Nat), k + d = 64 → d < q → v < 2 ^ 64 →
    ∃ v', fX12_canAll_47 K q (nI S) x2 (nI U) (lN c) (nI t) (lN v) (nI o) (nI k) m = K (nI S) x2 (nI U) (lN c) (nI t) (lN v') (nI (o + 1)) m ∧ v' < 2 ^ 64 ∧
      ∀ j, v'.testBit j = true ↔ (v.testBit j = true ∨ (S.testBit o = true ∧ may1 (m 1) o t ∧ ∃ k', k ≤ k' ∧ k' < 64 ∧ c.testBit k' = true ∧ k'.testBit o = false ∧ j = k' ||| 2 ^ o)) := by
  have h6 := hn.2.1
  intro d
  induction d with
  | zero =>
    intro k q v hd hq hv
    obtain ⟨q, rfl⟩ : ∃ z, q = z + 1 := ⟨q - 1, by omega⟩
    rw [fX12_canAll_47, if_pos (show (64 : Int32) ≤ nI k from nI_le (a := 64) (by omega) (by omega)), lt_v, p1]
    exact ⟨v, rfl, hv, fun j => ⟨Or.inl, fun h => h.elim id fun ⟨_, _, k', h1, h2, _⟩ => by omega⟩⟩
  | succ d ih =>
    intro k q v hd hq hv
    obtain ⟨q, rfl⟩ : ∃ z, q = z + 1 := ⟨q - 1, by omega⟩
    rw [fX12_canAll_47, if_neg (show ¬ (64 : Int32) ≤ nI k from nI_ge (b := 64) (by omega) (by decide)), bitG (by omega) (by omega)]
    cases cS : S.testBit o
    · rw [if_neg (show ¬ false = true by decide), if_neg (show ¬ (0 : Int32) = 1 by decide), lt_v, p1]
      exact ⟨v, rfl, hv, fun j => ⟨Or.inl, fun h => h.elim id fun z => absurd z.1 (by decide)⟩⟩
    rw [if_pos rfl, if_pos rfl, may_r (by omega) (hn.2.2.2.1 o ho) (nI_pos (by omega)), bd_s]
    cases cM : mayS (m 1) o (nI t)
    · rw [if_pos b2f, lt_v, p1]
      exact ⟨v, rfl, hv, fun j => ⟨Or.inl, fun h => h.elim id fun z => absurd (show mayS (m 1) o (nI t) = true from z.2.1) (by rw [cM]; decide)⟩⟩
    rw [if_neg b2t, lbit hc (by omega)]
    have h111 : ∀ z : Int64, z = lN v → fX12_canAll_111 (fun x1 x2 x3 x4 x6 x7 x9 x10 m => fX12_canAll_47 K q x1 x2 x3 x4 x6 x7 x9 x10 m) (nI S) x2 (nI U) (lN c) (nI t) (nI o) (nI k) z m = fX12_canAll_47 K q (nI S) x2 (nI U) (lN c) (nI t) (lN v) (nI o) (nI (k + 1)) m := fun z hz => by
      unfold fX12_canAll_111
      rw [hz, show (0 : Int64) = lN 0 from rfl, l_or, Nat.or_zero, lt_v, lt_v, p1]
    have skip : (c.testBit k = false ∨ k.testBit o = true) → ∃ v', fX12_canAll_47 K q (nI S) x2 (nI U) (lN c) (nI t) (lN v) (nI o) (nI (k + 1)) m = K (nI S) x2 (nI U) (lN c) (nI t) (lN v') (nI (o + 1)) m ∧ v' < 2 ^ 64 ∧
        ∀ j, v'.testBit j = true ↔ (v.testBit j = true ∨ (true = true ∧ may1 (m 1) o t ∧ ∃ k', k ≤ k' ∧ k' < 64 ∧ c.testBit k' = true ∧ k'.testBit o = false ∧ j = k' ||| 2 ^ o)) := fun no => by
      obtain ⟨v', e1, e2, e3⟩ := ih (k + 1) q v (by omega) (by omega) hv
      refine ⟨v', e1, e2, fun j => ?_⟩
      rw [e3]
      constructor
      · rintro (h | ⟨-, h2, k', h3, h4, h5⟩)
        · exact Or.inl h
        · exact Or.inr ⟨rfl, h2, k', by omega, h4, h5⟩
      · rintro (h | ⟨-, h2, k', h3, h4, h5, h6', h7⟩)
        · exact Or.inl h
        · by_cases e : k' = k
          · subst e
            rcases no with no | no
            · rw [no] at h5; exact absurd h5 (by decide)
            · rw [no] at h6'; exact absurd h6' (by decide)
          · exact Or.inr ⟨cS, h2, k', by omega, h4, h5, h6', h7⟩
    cases cc : c.testBit k
    · rw [if_neg (show ¬ false = true by decide), if_neg (show ¬ lg_cmp (lN 0) 1 = 0 by decide), h111 _ rfl]
      exact skip (Or.inl cc)
    rw [if_pos rfl, if_pos (show lg_cmp (lN 1) 1 = 0 by decide), bitG (by omega) (by omega)]
    cases ck : k.testBit o
    · have hko : k ||| 2 ^ o < 64 := Nat.or_lt_two_pow (n := 6) (by omega) (Nat.pow_lt_pow_right (by decide) (by omega))
      rw [if_neg (show ¬ false = true by decide), if_pos rfl, one_n o (by omega), i_or2 _ _ (by omega) (Nat.pow_lt_pow_right (by decide) (by omega)), lone_n hko, l_or, lt_v, lt_v, p1]
      obtain ⟨v', e1, e2, e3⟩ := ih (k + 1) q (v ||| 2 ^ (k ||| 2 ^ o)) (by omega) (by omega) (Nat.or_lt_two_pow hv (Nat.pow_lt_pow_right (by decide) hko))
      refine ⟨v', e1, e2, fun j => ?_⟩
      rw [e3, Nat.testBit_or, Bool.or_eq_true, Nat.testBit_two_pow, decide_eq_true_eq]
      constructor
      · rintro ((h | h) | ⟨-, h2, k', h3, h4, h5⟩)
        · exact Or.inl h
        · exact Or.inr ⟨rfl, cM, k, Nat.le_refl _, by omega, cc, ck, h.symm⟩
        · exact Or.inr ⟨rfl, h2, k', by omega, h4, h5⟩
      · rintro (h | ⟨-, h2, k', h3, h4, h5, h6', h7⟩)
        · exact Or.inl (Or.inl h)
        · by_cases e : k' = k
          · subst e; exact Or.inl (Or.inr h7.symm)
          · exact Or.inr ⟨cS, h2, k', by omega, h4, h5, h6', h7⟩
    · rw [if_pos rfl, if_neg (show ¬ (1 : Int32) = 0 by decide), h111 _ rfl]
      exact skip (Or.inr ck)
theorem can24_r {K : Int32 → Int32 → Int32 → Int64 → Int32 → Mm → Option (Int32 × Mm)} {x2 : Int32} {c t : Nat} (hn : GymOk (m 1) n) (hS : S < 64) (hU : U < 2 ^ 31) (ht : t < 31) (hc : c < 2 ^ 64) :
    ∀ (d o q v : Nat), o + d = n → d < q → v < 2 ^ 64 →
    ∃ v', fX12_canAll_24 K q (nI S) x2 (nI U) (lN c) (nI t) (lN v) (nI o) m = K (nI S) x2 (nI U) (lN v') (nI (t + 1)) m ∧ v' < 2 ^ 64 ∧
      ∀ j, v'.testBit j = true ↔ (v.testBit j = true ∨ (U.testBit t = false ∧ ∃ o', o ≤ o' ∧ o' < n ∧ S.testBit o' = true ∧ may1 (m 1) o' t ∧ ∃ k', k' < 64 ∧ c.testBit k' = true ∧ k'.testBit o' = false ∧ j = k' ||| 2 ^ o')) := by
  have h6 := hn.2.1
  intro d
  induction d with
  | zero =>
    intro o q v hd hq hv
    obtain ⟨q, rfl⟩ : ∃ z, q = z + 1 := ⟨q - 1, by omega⟩
    rw [fX12_canAll_24, hn.1, if_pos (nI_le (by omega) (by omega)), lt_v, p1]
    exact ⟨v, rfl, hv, fun j => ⟨Or.inl, fun h => h.elim id fun ⟨_, o', h1, h2, _⟩ => by omega⟩⟩
  | succ d ih =>
    intro o q v hd hq hv
    obtain ⟨q, rfl⟩ : ∃ z, q = z + 1 := ⟨q - 1, by omega⟩
    rw [fX12_canAll_24, hn.1, if_neg (nI_ge (by omega) (by omega)), bitG hU (by omega)]
    cases cU : U.testBit t
    · rw [if_neg (show ¬ false = true by decide), if_pos rfl]
      obtain ⟨w, k1, k2, k3⟩ := can47_r (K := fun x1 x2 x3 x4 x6 x7 x9 m => fX12_canAll_24 K q x1 x2 x3 x4 x6 x7 x9 m) (U := U) (x2 := x2) (c := c) hn (show o < n by omega) hS ht hc 64 0 FL v (by omega) (by unfold FL; omega) hv
      have k1' : fX12_canAll_47 (fun x1 x2 x3 x4 x6 x7 x9 m => fX12_canAll_24 K q x1 x2 x3 x4 x6 x7 x9 m) FL (nI S) x2 (nI U) (lN c) (nI t) (lN v) (nI o) 0 m = fX12_canAll_24 K q (nI S) x2 (nI U) (lN c) (nI t) (lN w) (nI (o + 1)) m := k1
      rw [k1']
      obtain ⟨v', e1, e2, e3⟩ := ih (o + 1) q w (by omega) (by omega) k2
      refine ⟨v', e1, e2, fun j => ?_⟩
      rw [e3, k3, cU]
      constructor
      · rintro ((h | ⟨h1, h2, k', -, h3⟩) | ⟨-, o', h1, h2⟩)
        · exact Or.inl h
        · exact Or.inr ⟨rfl, o, Nat.le_refl _, by omega, h1, h2, k', h3⟩
        · exact Or.inr ⟨rfl, o', by omega, h2⟩
      · rintro (h | ⟨-, o', h1, h2, h3, h4, k', h5⟩)
        · exact Or.inl (Or.inl h)
        · by_cases e : o' = o
          · subst e; exact Or.inl (Or.inr ⟨h3, h4, k', by omega, h5⟩)
          · exact Or.inr ⟨rfl, o', by omega, h2, h3, h4, k', h5⟩
    · rw [if_pos rfl, if_neg (show ¬ (1 : Int32) = 0 by decide), lt_v, p1]
      exact ⟨v, rfl, hv, fun j => ⟨Or.inl, fun h => h.elim id fun z => absurd z.1 (by decide)⟩⟩
def Cq (s : Nat → Int32) (n S U T : Nat) : Nat → Nat → Prop
  | 0, j => j = 0
  | d + 1, j => Cq s n S U T d j ∨ (U.testBit (T + d) = false ∧ ∃ o, o < n ∧ S.testBit o = true ∧ may1 s o (T + d) ∧ ∃ k, k < 64 ∧ Cq s n S U T d k ∧ k.testBit o = false ∧ j = k ||| 2 ^ o)
theorem can11_r {D : Nat} (hn : GymOk (m 1) n) (hS : S < 64) (hU : U < 2 ^ 31) (hL : T + D = L + 1) (hL16 : L < 16) :
    ∀ (d e q c : Nat), e + d = D → d < q → c < 2 ^ 64 → (∀ j, c.testBit j = true ↔ Cq (m 1) n S U T e j) → ∃ b, fX12_canAll_11 q (nI S) (nI L) (nI U) (lN c) (nI (T + e)) m = some (b2 b, m) ∧ (b = true ↔ Cq (m 1) n S U T D S) := by
  have h6 := hn.2.1
  intro d
  induction d with
  | zero =>
    intro e q c hd hq hc hj
    obtain ⟨q, rfl⟩ : ∃ z, q = z + 1 := ⟨q - 1, by omega⟩
    have e' : e = D := by omega
    subst e'
    rw [fX12_canAll_11, if_pos (nI_lt (by omega) (by omega)), lbit hc hS]
    refine ⟨c.testBit S, ?_, hj S⟩
    cases c.testBit S
    · rw [if_neg (show ¬ false = true by decide), if_neg (show ¬ lg_cmp (lN 0) 1 = 0 by decide)]; rfl
    · rw [if_pos rfl, if_pos (show lg_cmp (lN 1) 1 = 0 by decide)]; rfl
  | succ d ih =>
    intro e q c hd hq hc hj
    obtain ⟨q, rfl⟩ : ∃ z, q = z + 1 := ⟨q - 1, by omega⟩
    rw [fX12_canAll_11, if_neg (nI_nlt (by omega) (by omega))]
    obtain ⟨v, k1, k2, k3⟩ := can24_r (K := fun x1 x2 x3 x4 x6 m => fX12_canAll_11 q x1 x2 x3 x4 x6 m) (x2 := nI L) (c := c) (t := T + e) hn hS hU (by omega) hc n 0 FL c (by omega) (by unfold FL; omega) hc
    have k1' : fX12_canAll_24 (fun x1 x2 x3 x4 x6 m => fX12_canAll_11 q x1 x2 x3 x4 x6 m) FL (nI S) (nI L) (nI U) (lN c) (nI (T + e)) (lN c) 0 m = fX12_canAll_11 q (nI S) (nI L) (nI U) (lN v) (nI (T + e + 1)) m := k1
    rw [k1']
    refine ih (e + 1) q v (by omega) (by omega) k2 fun j => ?_
    rw [k3, hj]
    constructor
    · rintro (h | ⟨h1, o', -, h2, h3, h4, k', h5, h6', h7⟩)
      · exact Or.inl h
      · exact Or.inr ⟨h1, o', h2, h3, h4, k', h5, (hj k').mp h6', h7⟩
    · rintro (h | ⟨h1, o', h2, h3, h4, k', h5, h6', h7⟩)
      · exact Or.inl h
      · exact Or.inr ⟨h1, o', Nat.zero_le _, h2, h3, h4, k', h5, (hj k').mpr h6', h7⟩
/-- minutes of their own for all of j, but the used ones -/
def Mtch (s : Nat → Int32) (n S U T d j : Nat) : Prop := ∃ f : Nat → Nat, (∀ o, j.testBit o = true → o < n ∧ S.testBit o = true ∧ T ≤ f o ∧ f o < T + d ∧ U.testBit (f o) = false ∧ may1 s o (f o)) ∧ ∀ o o', j.testBit o = true → j.testBit o' = true → f o = f o' → o = o'
theorem or_tb {k o i : Nat} : (k ||| 2 ^ o).testBit i = true ↔ (k.testBit i = true ∨ o = i) := by
  rw [Nat.testBit_or, Bool.or_eq_true, Nat.testBit_two_pow, decide_eq_true_eq]
theorem tb_ext {a b : Nat} (h : ∀ i, a.testBit i = true ↔ b.testBit i = true) : a = b := Nat.eq_of_testBit_eq fun i => Bool.eq_iff_iff.mpr (h i)
theorem cq_m {s : Nat → Int32} (h6 : n ≤ 6) : ∀ d j, Cq s n S U T d j ↔ (j < 64 ∧ Mtch s n S U T d j) := by
  intro d
  induction d with
  | zero =>
    intro j
    constructor
    · intro h
      have h : j = 0 := h
      subst h
      exact ⟨by decide, fun _ => 0, fun o ho => absurd ho (by rw [Nat.zero_testBit]; decide), fun o _ ho => absurd ho (by rw [Nat.zero_testBit]; decide)⟩
    · rintro ⟨-, f, h1, -⟩
      refine Classical.byContradiction fun ne => ?_
      obtain ⟨i, hi⟩ := Nat.exists_testBit_of_ne_zero (show j ≠ 0 from ne)
      obtain ⟨-, -, a, b, -⟩ := h1 i hi
      omega
  | succ d ih =>
    intro j
    constructor
    · rintro (h | ⟨hU, o, ho, hS, hM, k, hk, hC, hb, rfl⟩)
      · obtain ⟨hj, f, h1, h2⟩ := (ih j).mp h
        refine ⟨hj, f, fun i hi => ?_, h2⟩
        obtain ⟨a1, a2, a3, a4, a5⟩ := h1 i hi
        exact ⟨a1, a2, a3, by omega, a5⟩
      · obtain ⟨-, f, h1, h2⟩ := (ih k).mp hC
        refine ⟨Nat.or_lt_two_pow (n := 6) hk (Nat.pow_lt_pow_right (by decide) (by omega)), fun i => if i = o then T + d else f i, fun i hi => ?_, fun i i' hi hi' e => ?_⟩
        · by_cases e : i = o
          · subst e
            simp only [if_pos]
            exact ⟨ho, hS, by omega, by omega, hU, hM⟩
          · simp only [if_neg e]
            obtain ⟨a1, a2, a3, a4, a5⟩ := h1 i ((or_tb.mp hi).elim id fun z => absurd z.symm e)
            exact ⟨a1, a2, a3, by omega, a5⟩
        · have e1 : i ≠ o → k.testBit i = true := fun z => (or_tb.mp hi).elim id fun y => absurd y.symm z
          have e2 : i' ≠ o → k.testBit i' = true := fun z => (or_tb.mp hi').elim id fun y => absurd y.symm z
          by_cases c1 : i = o
          · by_cases c2 : i' = o
            · rw [c1, c2]
            · simp only [if_pos c1, if_neg c2] at e
              have := (h1 i' (e2 c2)).2.2.2.1
              omega
          · by_cases c2 : i' = o
            · simp only [if_neg c1, if_pos c2] at e
              have := (h1 i (e1 c1)).2.2.2.1
              omega
            · simp only [if_neg c1, if_neg c2] at e
              exact h2 i i' (e1 c1) (e2 c2) e
    · rintro ⟨hj, f, h1, h2⟩
      by_cases c : ∃ o, j.testBit o = true ∧ f o = T + d
      · obtain ⟨o, ho, hf⟩ := c
        obtain ⟨a1, a2, a3, a4, a5, a6⟩ := h1 o ho
        rw [hf] at a5 a6
        obtain ⟨G, hG, hb⟩ := mask_ex (fun i => j.testBit i = true ∧ i ≠ o) 6
        refine Or.inr ⟨a5, o, a1, a2, a6, G, hG, (ih G).mpr ⟨hG, f, fun i hi => ?_, fun i i' hi hi' => h2 i i' ((hb i).mp hi).2.1 ((hb i').mp hi').2.1⟩, ?_, ?_⟩
        · obtain ⟨-, b1, b2⟩ := (hb i).mp hi
          obtain ⟨c1, c2, c3, c4, c5⟩ := h1 i b1
          refine ⟨c1, c2, c3, ?_, c5⟩
          have : f i ≠ T + d := fun z => b2 (h2 i o b1 ho (z.trans hf.symm))
          omega
        · refine Bool.eq_false_iff.mpr fun z => ?_
          exact ((hb o).mp z).2.2 rfl
        · refine tb_ext fun i => ?_
          rw [or_tb, hb]
          constructor
          · intro z
            by_cases e : o = i
            · exact Or.inr e
            · exact Or.inl ⟨tb_lt (N := 6) hj z, z, fun y => e y.symm⟩
          · rintro (⟨-, z, -⟩ | z)
            · exact z
            · subst z; exact ho
      · refine Or.inl ((ih j).mpr ⟨hj, f, fun i hi => ?_, h2⟩)
        obtain ⟨c1, c2, c3, c4, c5⟩ := h1 i hi
        refine ⟨c1, c2, c3, ?_, c5⟩
        have : f i ≠ T + d := fun z => c ⟨i, hi, z⟩
        omega
theorem canAll_r (hn : GymOk (m 1) n) (hT : m 1 1 = nI T) (hS : S < 64) (hU : U < 2 ^ 31) (hTL : T ≤ L + 1) (hL : L < 16) : ∃ b, fX12_canAll (nI S) (nI L) (nI U) m = some (b2 b, m) ∧ (b = true ↔ Mtch (m 1) n S U T (L + 1 - T) S) := by
  unfold fX12_canAll
  rw [lt_v, hT]
  obtain ⟨b, e1, e2⟩ := can11_r (L := L) (T := T) (D := L + 1 - T) hn hS hU (by omega) hL (L + 1 - T) 0 FL 1 (by omega) (by unfold FL; omega) (by decide) (fun j => by
    show _ ↔ j = 0
    exact Nat.testBit_one_eq_true_iff_self_eq_zero)
  exact ⟨b, e1, e2.trans ((cq_m hn.2.1 _ _).trans ⟨fun h => h.2, fun h => ⟨hS, h⟩⟩)⟩
end CA
