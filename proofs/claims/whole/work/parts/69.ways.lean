/-! who can be done when: the bits of the minutes that a set may -/
section OP
variable {i : Nat} {s : Nat → Int32} {n : Nat}
def may1 (s : Nat → Int32) (o t : Nat) : Prop := mayS s o (nI t) = true
/-- in such a row stand the minutes of each -/
def OpenIs (i n : Nat) (m : Mm) (v : Nat → Nat) : Prop := ∀ o, o < n → m (gp i 12) o = nI (v o) ∧ v o < 65536
theorem GymIs.row12 {m : Mm} {f : Nat → Int32} (h : GymIs i m s) : GymIs i (upA m (gp i 12) f) s := h.of_eq fun k _ _ k12 => upA_ne (gp_ne k12)
theorem upA_eq {m : Mm} {p k : Nat} {v : Int32} : up m p k v = upA m p (upd (m p) k v) := rfl
theorem open22_c {K : Int32 → Int32 → Mm → Option (Int32 × Mm)} {o L : Nat} (hn : GymOk s n) (ho : o < n) (hL : L < 16) :
    ∀ (d t q a : Nat) (m : Mm), t + d = L + 1 → d < q → GymIs i m s → m (gp i 12) o = nI a → a < 65536 →
    ∃ (f : Nat → Int32) (a' : Nat), fX1_openUntil_22 K i q (nI L) (nI o) (nI t) m = K (nI L) (nI (o + 1)) (upA m (gp i 12) f) ∧ (∀ j, j ≠ o → f j = m (gp i 12) j) ∧ f o = nI a' ∧ a' < 65536 ∧ ∀ j, a'.testBit j = true ↔ (a.testBit j = true ∨ (t ≤ j ∧ j ≤ L ∧ may1 s o j)) := by
  have h6 := hn.2.1
  intro d
  induction d with
  | zero =>
    intro t q a m hd hq hG hm ha
    obtain ⟨q, rfl⟩ : ∃ z, q = z + 1 := ⟨q - 1, by omega⟩
    rw [fX1_openUntil_22, if_pos (nI_lt (by omega) (by omega)), lt_v, p1]
    exact ⟨m (gp i 12), a, by rw [upA_self], fun _ _ => rfl, hm, ha, fun j => ⟨Or.inl, fun h => h.elim id fun z => by omega⟩⟩
  | succ d ih =>
    intro t q a m hd hq hG hm ha
    obtain ⟨q, rfl⟩ : ∃ z, q = z + 1 := ⟨q - 1, by omega⟩
    rw [fX1_openUntil_22, if_neg (nI_nlt (by omega) (by omega)), mayIn_c hG (by omega) (hn.2.2.2.1 o ho) (nI_pos (by omega)), bd_s]
    cases c : mayS s o (nI t)
    · rw [if_pos b2f, lt_v, p1]
      obtain ⟨f, a', e1, e2, e3, e4, e5⟩ := ih (t + 1) q a m (by omega) (by omega) hG hm ha
      refine ⟨f, a', e1, e2, e3, e4, fun j => ?_⟩
      rw [e5]
      constructor
      · rintro (h | ⟨h1, h2, h3⟩)
        · exact Or.inl h
        · exact Or.inr ⟨by omega, h2, h3⟩
      · rintro (h | ⟨h1, h2, h3⟩)
        · exact Or.inl h
        · by_cases e : j = t
          · subst e
            unfold may1 at h3
            rw [c] at h3
            exact absurd h3 (by decide)
          · exact Or.inr ⟨by omega, h2, h3⟩
    · rw [if_neg b2t, gx_n (by omega) (by decide), ix_n (by omega), lt_v, lt_v, p1, hm, one_n t (by omega), i_or2 _ _ (by omega) (Nat.pow_lt_pow_right (by decide) (by omega)), upA_eq]
      have hlt : a ||| 2 ^ t < 65536 := Nat.or_lt_two_pow (n := 16) ha (Nat.pow_lt_pow_right (by decide) (by omega))
      obtain ⟨f, a', e1, e2, e3, e4, e5⟩ := ih (t + 1) q (a ||| 2 ^ t) (upA m (gp i 12) (upd (m (gp i 12)) o (nI (a ||| 2 ^ t)))) (by omega) (by omega) hG.row12 (by rw [upA_same, pk_us]) hlt
      rw [upA_upA] at e1
      rw [upA_same] at e2
      refine ⟨f, a', e1, fun j hj => (e2 j hj).trans (pk_un hj), e3, e4, fun j => ?_⟩
      rw [e5, Nat.testBit_or, Bool.or_eq_true, Nat.testBit_two_pow, decide_eq_true_eq]
      constructor
      · rintro ((h | h) | ⟨h1, h2, h3⟩)
        · exact Or.inl h
        · subst h; exact Or.inr ⟨by omega, by omega, c⟩
        · exact Or.inr ⟨by omega, h2, h3⟩
      · rintro (h | ⟨h1, h2, h3⟩)
        · exact Or.inl (Or.inl h)
        · by_cases e : t = j
          · exact Or.inl (Or.inr e)
          · exact Or.inr ⟨by omega, h2, h3⟩
theorem open2_c {T L : Nat} (hn : GymOk s n) (hT : s 1 = nI T) (hTL : T ≤ L + 1) (hL : L < 16) :
    ∀ (d o q : Nat) (m : Mm), o + d = n → d < q → GymIs i m s →
    ∃ (f : Nat → Int32) (v : Nat → Nat), fX1_openUntil_2 i q (nI L) (nI o) m = some (0, upA m (gp i 12) f) ∧ (∀ j, j < o → f j = m (gp i 12) j) ∧ ∀ j, o ≤ j → j < n → f j = nI (v j) ∧ v j < 65536 ∧ ∀ t, (v j).testBit t = true ↔ (T ≤ t ∧ t ≤ L ∧ may1 s j t) := by
  have h6 := hn.2.1
  intro d
  induction d with
  | zero =>
    intro o q m hd hq hG
    obtain ⟨q, rfl⟩ : ∃ z, q = z + 1 := ⟨q - 1, by omega⟩
    rw [fX1_openUntil_2, hG.1.1, hn.1, if_pos (nI_le (by omega) (by omega))]
    exact ⟨m (gp i 12), fun _ => 0, by rw [upA_self], fun _ _ => rfl, fun j h1 h2 => by omega⟩
  | succ d ih =>
    intro o q m hd hq hG
    obtain ⟨q, rfl⟩ : ∃ z, q = z + 1 := ⟨q - 1, by omega⟩
    have hG1 : GymIs i (upA m (gp i 12) (upd (m (gp i 12)) o 0)) s := hG.row12
    rw [fX1_openUntil_2, hG.1.1, hn.1, if_neg (nI_ge (by omega) (by omega)), gx_n (by omega) (by decide), ix_n (by omega), lt_v, lt_v, upA_eq, hG1.1.2.1, hT]
    obtain ⟨f, a, e1, e2, e3, e4, e5⟩ := open22_c (K := fun x1 x2 m => fX1_openUntil_2 i q x1 x2 m) hn (show o < n by omega) hL (L + 1 - T) T FL 0 _ (by omega) (by unfold FL; omega) hG1 (by rw [upA_same, pk_us]; rfl) (by decide)
    rw [e1, upA_upA]
    obtain ⟨g, v, k1, k2, k3⟩ := ih (o + 1) q (upA m (gp i 12) f) (by omega) (by omega) hG.row12
    rw [upA_same] at e2 k2
    rw [upA_upA] at k1
    refine ⟨g, fun j => if j = o then a else v j, k1, fun j hj => by rw [k2 j (by omega), e2 j (by omega), pk_un (by omega)], fun j h1 h2 => ?_⟩
    show g j = nI (if j = o then a else v j) ∧ (if j = o then a else v j) < 65536 ∧ ∀ t, (if j = o then a else v j).testBit t = true ↔ (T ≤ t ∧ t ≤ L ∧ may1 s j t)
    by_cases e : j = o
    · subst e
      rw [if_pos rfl, k2 j (by omega)]
      refine ⟨e3, e4, fun t => ?_⟩
      rw [e5, Nat.zero_testBit]
      exact ⟨fun h => h.elim (fun z => absurd z (by decide)) id, Or.inr⟩
    · rw [if_neg e]
      exact k3 j (by omega) h2
/-- all minutes up to one are told -/
theorem openUntil_c {T L : Nat} {m : Mm} (hn : GymOk s n) (hT : s 1 = nI T) (hTL : T ≤ L + 1) (hL : L < 16) (hG : GymIs i m s) :
    ∃ (f : Nat → Int32) (v : Nat → Nat), fX1_openUntil i (nI L) m = some (0, upA m (gp i 12) f) ∧ OpenIs i n (upA m (gp i 12) f) v ∧ ∀ o, o < n → ∀ t, (v o).testBit t = true ↔ (T ≤ t ∧ t ≤ L ∧ may1 s o t) := by
  have h6 := hn.2.1
  obtain ⟨f, v, e1, -, e3⟩ := open2_c hn hT hTL hL n 0 FL m (by omega) (by unfold FL; omega) hG
  exact ⟨f, v, e1, fun o ho => by rw [upA_same]; exact ⟨(e3 o (by omega) ho).1, (e3 o (by omega) ho).2.1⟩, fun o ho t => (e3 o (by omega) ho).2.2 t⟩
/-- what a group has -/
theorem openFor_c {v : Nat → Nat} {G : Nat} {m : Mm} (hn : GymOk s n) (hG : GymIs i m s) (hO : OpenIs i n m v) (hg : G < 64) :
    ∀ (d o q a : Nat), o + d = n → d < q → a < 65536 → ∃ u, fX1_openFor_4 i q (nI G) (nI a) (nI o) m = some (nI u, m) ∧ u < 65536 ∧ ∀ t, u.testBit t = true ↔ (a.testBit t = true ∨ ∃ j, o ≤ j ∧ j < n ∧ G.testBit j = true ∧ (v j).testBit t = true) := by
  have h6 := hn.2.1
  intro d
  induction d with
  | zero =>
    intro o q a hd hq ha
    obtain ⟨q, rfl⟩ : ∃ z, q = z + 1 := ⟨q - 1, by omega⟩
    rw [fX1_openFor_4, hG.1.1, hn.1, if_pos (nI_le (by omega) (by omega))]
    exact ⟨a, rfl, ha, fun t => ⟨Or.inl, fun h => h.elim id fun ⟨j, j1, j2, _⟩ => by omega⟩⟩
  | succ d ih =>
    intro o q a hd hq ha
    obtain ⟨q, rfl⟩ : ∃ z, q = z + 1 := ⟨q - 1, by omega⟩
    rw [fX1_openFor_4, hG.1.1, hn.1, if_neg (nI_ge (by omega) (by omega)), bitG (by omega) (by omega)]
    cases c : G.testBit o
    · rw [if_neg (show ¬ false = true by decide), if_neg (show ¬ (0 : Int32) = 1 by decide), lt_v, p1]
      obtain ⟨u, e1, e2, e3⟩ := ih (o + 1) q a (by omega) (by omega) ha
      refine ⟨u, e1, e2, fun t => ?_⟩
      rw [e3]
      constructor
      · rintro (h | ⟨j, j1, j2, j3, j4⟩)
        · exact Or.inl h
        · exact Or.inr ⟨j, by omega, j2, j3, j4⟩
      · rintro (h | ⟨j, j1, j2, j3, j4⟩)
        · exact Or.inl h
        · by_cases e : j = o
          · subst e; rw [c] at j3; exact absurd j3 (by decide)
          · exact Or.inr ⟨j, by omega, j2, j3, j4⟩
    · obtain ⟨o1, o2⟩ := hO o (by omega)
      rw [if_pos rfl, if_pos rfl, gx_n (by omega) (by decide), ix_n (by omega), o1, i_or2 _ _ (by omega) (by omega), lt_v, lt_v, p1]
      obtain ⟨u, e1, e2, e3⟩ := ih (o + 1) q (a ||| v o) (by omega) (by omega) (Nat.or_lt_two_pow (n := 16) ha o2)
      refine ⟨u, e1, e2, fun t => ?_⟩
      rw [e3, Nat.testBit_or, Bool.or_eq_true]
      constructor
      · rintro ((h | h) | ⟨j, j1, j2, j3, j4⟩)
        · exact Or.inl h
        · exact Or.inr ⟨o, by omega, by omega, c, h⟩
        · exact Or.inr ⟨j, by omega, j2, j3, j4⟩
      · rintro (h | ⟨j, j1, j2, j3, j4⟩)
        · exact Or.inl (Or.inl h)
        · by_cases e : j = o
          · subst e; exact Or.inl (Or.inr j4)
          · exact Or.inr ⟨j, by omega, j2, j3, j4⟩
/-- a group is not larger than what it has -/
def Enough (n G : Nat) (v : Nat → Nat) : Prop := cn (fun o => G.testBit o = true) 16 ≤ cn (fun t => ∃ j, j < n ∧ G.testBit j = true ∧ (v j).testBit t = true) 16
theorem each2_c {v : Nat → Nat} {S : Nat} {m : Mm} (hn : GymOk s n) (hG : GymIs i m s) (hO : OpenIs i n m v) (hS : S < 64) :
    ∀ (d g q : Nat), g + d = S + 1 → d < q → ∃ b, fX1_eachHasOne_2 i q (nI S) (nI g) m = some (b2 b, m) ∧ (b = true ↔ ∀ G, g ≤ G → G ≤ S → G ||| S = S → Enough n G v) := by
  intro d
  induction d with
  | zero =>
    intro g q hd hq
    obtain ⟨q, rfl⟩ : ∃ z, q = z + 1 := ⟨q - 1, by omega⟩
    rw [fX1_eachHasOne_2, if_pos (nI_lt (by omega) (by omega))]
    exact ⟨true, rfl, fun _ G h1 h2 => by omega, fun _ => rfl⟩
  | succ d ih =>
    intro g q hd hq
    obtain ⟨q, rfl⟩ : ∃ z, q = z + 1 := ⟨q - 1, by omega⟩
    rw [fX1_eachHasOne_2, if_neg (nI_nlt (by omega) (by omega))]
    obtain ⟨b, e1, e2⟩ := ih (g + 1) q (by omega) (by omega)
    have hd := sub_6 g (by omega) S hS
    by_cases c : g ||| S = S
    · rw [decide_eq_true c, decide_eq_true_eq] at hd
      obtain ⟨u, k1, k2, k3⟩ := openFor_c hn hG hO (show g < 64 by omega) n 0 FL 0 (by omega) (by have := hn.2.1; unfold FL; omega) (by decide)
      have k1' : fX1_openFor i (nI g) m = some (nI u, m) := k1
      have en : Enough n g v ↔ cn (fun o => g.testBit o = true) 16 ≤ cn (fun t => u.testBit t = true) 16 := by
        unfold Enough
        rw [cn_congr (p := fun t => u.testBit t = true) (q := fun t => ∃ j, j < n ∧ g.testBit j = true ∧ (v j).testBit t = true) (fun t _ => by
          rw [k3, Nat.zero_testBit]
          exact ⟨fun h => h.elim (fun z => absurd z (by decide)) fun ⟨j, _, j2, j3⟩ => ⟨j, j2, j3⟩, fun ⟨j, j2, j3⟩ => Or.inr ⟨j, by omega, j2, j3⟩⟩)]
      rw [if_pos hd, k1', bd_s, bitCount_c k2, bd_s, bitCount_c (by omega), bd_s]
      have l1 := cn_le (fun t => u.testBit t = true) 16
      have l2 := cn_le (fun o => g.testBit o = true) 16
      by_cases z : cn (fun o => g.testBit o = true) 16 ≤ cn (fun t => u.testBit t = true) 16
      · rw [if_pos (nI_le z (by omega)), lt_v, p1]
        refine ⟨b, e1, e2.trans ⟨fun h G h1 h2 h3 => ?_, fun h G h1 h2 h3 => h G (by omega) h2 h3⟩⟩
        by_cases e : G = g
        · subst e; exact en.mpr z
        · exact h G (by omega) h2 h3
      · rw [if_neg (nI_ge (by omega) (by omega))]
        exact ⟨false, rfl, fun h => absurd h (by decide), fun h => absurd (en.mp (h g (Nat.le_refl _) (by omega) c)) z⟩
    · rw [decide_eq_false c, decide_eq_false_iff_not] at hd
      rw [if_neg hd, lt_v, p1]
      refine ⟨b, e1, e2.trans ⟨fun h G h1 h2 h3 => ?_, fun h G h1 h2 h3 => h G (by omega) h2 h3⟩⟩
      by_cases e : G = g
      · subst e; exact absurd h3 c
      · exact h G (by omega) h2 h3
/-- each of a set has a minute of its own -/
def Own (S : Nat) (v : Nat → Nat) : Prop := Sdr (fun o t => (v o).testBit t = true) (fun o => S.testBit o = true) 16 16
theorem eachHasOne_c {v : Nat → Nat} {S : Nat} {m : Mm} (hn : GymOk s n) (hG : GymIs i m s) (hO : OpenIs i n m v) (hS : S < 2 ^ n) : ∃ b, fX1_eachHasOne i (nI S) m = some (b2 b, m) ∧ (b = true ↔ Own S v) := by
  have h6 := hn.2.1
  have hp := pow6 h6
  obtain ⟨b, e1, e2⟩ := each2_c hn hG hO (show S < 64 by omega) S 1 FL (by omega) (by unfold FL; omega)
  refine ⟨b, e1, e2.trans ?_⟩
  unfold Own
  rw [← hall_iff]
  constructor
  · intro h g hg
    obtain ⟨G, hG1, hG2⟩ := mask_ex g 16
    have hsub : G ||| S = S := sub_bits.mpr fun o ho => (hg o ((hG2 o).mp ho).2).1
    have hle : G ≤ S := by rw [← hsub]; exact Nat.left_le_or
    rcases Nat.eq_zero_or_pos G with z | z
    · subst z
      rw [cn_congr (p := g) (q := fun o => (0 : Nat).testBit o = true) (fun o ho => ⟨fun h => (hG2 o).mpr ⟨ho, h⟩, fun h => ((hG2 o).mp h).2⟩)]
      exact cn_mono 16 fun t _ ht => absurd ht (by rw [Nat.zero_testBit]; decide)
    · have := h G z hle hsub
      unfold Enough at this
      rw [cn_congr (p := g) (q := fun o => G.testBit o = true) (fun o ho => ⟨fun h => (hG2 o).mpr ⟨ho, h⟩, fun h => ((hG2 o).mp h).2⟩)]
      exact Nat.le_trans this (cn_mono 16 fun t _ ⟨j, _, j2, j3⟩ => ⟨j, ((hG2 j).mp j2).2, j3⟩)
  · intro h G h1 h2 h3
    have hb := sub_bits.mp h3
    have := h (fun o => G.testBit o = true) (fun o ho => ⟨hb o ho, by have := tb_lt (N := n) hS (hb o ho); omega⟩)
    unfold Enough
    exact Nat.le_trans this (cn_mono 16 fun t _ ⟨j, j1, j2⟩ => ⟨j, tb_lt hS (hb j j1), j1, j2⟩)
end OP
