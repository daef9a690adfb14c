/-! in which minute each had better be -/
theorem least_c (m : Mm) {u : Nat} (hu : u < 16) : ∀ (d k q : Nat), k + d = u → d < q → fX11_leastOf_2 q (nI (2 ^ u)) (nI k) m = some (nI u, m) := by
  have h2 : 2 ^ u < 2 ^ 16 := Nat.pow_lt_pow_right (by decide) hu
  intro d
  induction d with
  | zero =>
    intro k q hd hq
    obtain ⟨q, rfl⟩ : ∃ z, q = z + 1 := ⟨q - 1, by omega⟩
    have e : k = u := by omega
    subst e
    rw [fX11_leastOf_2, if_neg (show ¬ (31 : Int32) ≤ nI k from nI_ge (b := 31) (by omega) (by decide)), bitG (by omega) (by omega), Nat.testBit_two_pow, decide_eq_true rfl, if_pos rfl, if_neg (by decide)]
  | succ d ih =>
    intro k q hd hq
    obtain ⟨q, rfl⟩ : ∃ z, q = z + 1 := ⟨q - 1, by omega⟩
    rw [fX11_leastOf_2, if_neg (show ¬ (31 : Int32) ≤ nI k from nI_ge (b := 31) (by omega) (by decide)), bitG (by omega) (by omega), Nat.testBit_two_pow, decide_eq_false (show ¬ u = k by omega), if_neg (show ¬ false = true by decide), if_pos rfl, lt_v, p1]
    exact ih (k + 1) q (by omega) (by omega)
theorem off_6 : ∀ S, S < 64 → ∀ k, k < 6 → nI S &&& (((1 : Int32) <<< (nI k &&& 31)) ^^^ (-1)) = nI (S ^^^ (S &&& 2 ^ k)) := by decide +kernel
theorem off_tb {S k i : Nat} : (S ^^^ (S &&& 2 ^ k)).testBit i = true ↔ (S.testBit i = true ∧ k ≠ i) := by
  rw [Nat.testBit_xor, Nat.testBit_and, Nat.testBit_two_pow]
  by_cases e : k = i
  · rw [decide_eq_true e]
    cases S.testBit i <;> simp [e]
  · rw [decide_eq_false e]
    cases S.testBit i <;> simp [e]
section GD
variable {n S T L k U S' : Nat} {s : Nat → Int32} {v va : Nat → Nat} {f0 : Nat → Nat}
def putV (v : Nat → Nat) (k t : Nat) : Nat → Nat := fun o => if o = k then 2 ^ t else v o
def Good (S : Nat) (v : Nat → Nat) (k t : Nat) : Prop := (v k).testBit t = true ∧ Own S (putV v k t)
/-- how far it is settled -/
def Set0 (n S T L k U : Nat) (s : Nat → Int32) (v f0 : Nat → Nat) : Prop :=
  Own S v ∧ (∀ o, o < k → S.testBit o = true → v o = 2 ^ (f0 o) ∧ f0 o < 16) ∧ (∀ o, k ≤ o → o < n → ∀ t, (v o).testBit t = true ↔ (T ≤ t ∧ t ≤ L ∧ may1 s o t)) ∧
  U < 65536 ∧ ∀ t, U.testBit t = true ↔ ∃ o, o < k ∧ S.testBit o = true ∧ f0 o = t
theorem pow_tb {a b : Nat} : (2 ^ a).testBit b = true ↔ a = b := by rw [Nat.testBit_two_pow, decide_eq_true_eq]
theorem fal {b : Bool} : b = false ↔ ¬ b = true := by cases b <;> decide
theorem good_iff (h6 : n ≤ 6) (hS : S < 2 ^ n) (hL : L < 16) (hk : k < n) (hkS : S.testBit k = true) (h : Set0 n S T L k U s v f0) (hS' : ∀ o, S'.testBit o = true ↔ (S.testBit o = true ∧ k < o)) {t : Nat} (hTt : T ≤ t) (htL : t ≤ L) :
    Good S v k t ↔ (U.testBit t = false ∧ may1 s k t ∧ Mtch s n S' (U ||| 2 ^ t) T (L + 1 - T) S') := by
  obtain ⟨⟨g, g1, g2⟩, hF, hA, hU16, hU⟩ := h
  have n16 : ∀ o, S.testBit o = true → o < 16 := fun o ho => by have := tb_lt hS ho; omega
  constructor
  · rintro ⟨hb, f, f1, f2⟩
    have fk : f k = t := by
      have := (f1 k hkS (by omega)).2
      unfold putV at this
      simp only [if_pos] at this
      exact (pow_tb.mp this).symm
    have fl : ∀ o, o < k → S.testBit o = true → f o = f0 o := fun o ho hs => by
      have := (f1 o hs (n16 o hs)).2
      unfold putV at this
      simp only [if_neg (show ¬ o = k by omega)] at this
      rw [(hF o ho hs).1] at this
      exact (pow_tb.mp this).symm
    refine ⟨fal.mpr fun z => ?_, ((hA k (Nat.le_refl _) hk t).mp hb).2.2, f, fun o ho => ?_, fun o o' ho ho' e => f2 o o' ((hS' o).mp ho).1 ((hS' o').mp ho').1 (n16 o ((hS' o).mp ho).1) (n16 o' ((hS' o').mp ho').1) e⟩
    · obtain ⟨o, o1, o2, o3⟩ := (hU t).mp z
      have := f2 o k o2 hkS (n16 o o2) (by omega) (by rw [fl o o1 o2, o3, fk])
      omega
    · obtain ⟨hs, hko⟩ := (hS' o).mp ho
      have on := tb_lt hS hs
      have hv := (f1 o hs (n16 o hs)).2
      unfold putV at hv
      simp only [if_neg (show ¬ o = k by omega)] at hv
      obtain ⟨a1, a2, a3⟩ := (hA o (by omega) on (f o)).mp hv
      refine ⟨on, ho, a1, by omega, fal.mpr fun z => ?_, a3⟩
      rcases or_tb.mp z with z | z
      · obtain ⟨o', o1, o2, o3⟩ := (hU (f o)).mp z
        have := f2 o' o o2 hs (n16 o' o2) (n16 o hs) (by rw [fl o' o1 o2, o3])
        omega
      · have := f2 k o hkS hs (by omega) (n16 o hs) (by rw [fk, z])
        omega
  · rintro ⟨hu, hm, f, f1, f2⟩
    have gl : ∀ o, o < k → S.testBit o = true → g o = f0 o := fun o ho hs => by
      have : (v o).testBit (g o) = true := (g1 o hs (n16 o hs)).2
      rw [(hF o ho hs).1] at this
      exact (pow_tb.mp this).symm
    refine ⟨(hA k (Nat.le_refl _) hk t).mpr ⟨hTt, htL, hm⟩, fun o => if o < k then f0 o else if o = k then t else f o, fun o hs _ => ?_, fun o o' hs hs' _ _ e => ?_⟩
    · unfold putV
      rcases Nat.lt_trichotomy o k with c | c | c
      · simp only [if_pos c, if_neg (show ¬ o = k by omega)]
        exact ⟨(hF o c hs).2, by rw [(hF o c hs).1]; exact pow_tb.mpr rfl⟩
      · simp only [if_neg (show ¬ o < k by omega), if_pos c]
        exact ⟨by omega, pow_tb.mpr rfl⟩
      · simp only [if_neg (show ¬ o < k by omega), if_neg (show ¬ o = k by omega)]
        obtain ⟨a1, -, a3, a4, -, a6⟩ := f1 o ((hS' o).mpr ⟨hs, c⟩)
        exact ⟨by omega, (hA o (by omega) a1 (f o)).mpr ⟨a3, by omega, a6⟩⟩
    · have big : ∀ j, k < j → S.testBit j = true → ¬ f j = t ∧ ∀ i, i < k → S.testBit i = true → ¬ f0 i = f j := fun j hj hs => by
        have := (f1 j ((hS' j).mpr ⟨hs, hj⟩)).2.2.2.2.1
        exact ⟨fun z => fal.mp this (or_tb.mpr (Or.inr z.symm)), fun i hi hsi z => fal.mp this (or_tb.mpr (Or.inl ((hU (f j)).mpr ⟨i, hi, hsi, z⟩)))⟩
      have low : ∀ i, i < k → S.testBit i = true → ¬ f0 i = t := fun i hi hsi z => fal.mp hu ((hU t).mpr ⟨i, hi, hsi, z⟩)
      rcases Nat.lt_trichotomy o k with c | c | c <;> rcases Nat.lt_trichotomy o' k with c' | c' | c'
      · simp only [if_pos c, if_pos c'] at e
        exact g2 o o' hs hs' (n16 o hs) (n16 o' hs') (by rw [gl o c hs, gl o' c' hs', e])
      · simp only [if_pos c, if_neg (show ¬ o' < k by omega), if_pos c'] at e
        exact absurd e (low o c hs)
      · simp only [if_pos c, if_neg (show ¬ o' < k by omega), if_neg (show ¬ o' = k by omega)] at e
        exact absurd e ((big o' c' hs').2 o c hs)
      · simp only [if_neg (show ¬ o < k by omega), if_pos c, if_pos c'] at e
        exact absurd e.symm (low o' c' hs')
      · omega
      · simp only [if_neg (show ¬ o < k by omega), if_pos c, if_neg (show ¬ o' < k by omega), if_neg (show ¬ o' = k by omega)] at e
        exact absurd e.symm (big o' c' hs').1
      · simp only [if_neg (show ¬ o < k by omega), if_neg (show ¬ o = k by omega), if_pos c'] at e
        exact absurd e.symm ((big o c hs).2 o' c' hs')
      · simp only [if_neg (show ¬ o < k by omega), if_neg (show ¬ o = k by omega), if_neg (show ¬ o' < k by omega), if_pos c'] at e
        exact absurd e (big o c hs).1
      · simp only [if_neg (show ¬ o < k by omega), if_neg (show ¬ o = k by omega), if_neg (show ¬ o' < k by omega), if_neg (show ¬ o' = k by omega)] at e
        exact f2 o o' ((hS' o).mpr ⟨hs, c⟩) ((hS' o').mpr ⟨hs', c'⟩) e
/-- there is one -/
theorem good_ex (h6 : n ≤ 6) (hS : S < 2 ^ n) (hk : k < n) (hkS : S.testBit k = true) (h : Set0 n S T L k U s v f0) : ∃ u, T ≤ u ∧ u ≤ L ∧ Good S v k u := by
  obtain ⟨⟨g, g1, g2⟩, hF, hA, -⟩ := h
  have hb := (g1 k hkS (by omega)).2
  obtain ⟨a1, a2, -⟩ := (hA k (Nat.le_refl _) hk (g k)).mp hb
  refine ⟨g k, a1, a2, hb, g, fun o hs ho => ⟨(g1 o hs ho).1, ?_⟩, g2⟩
  unfold putV
  by_cases c : o = k
  · subst c
    simp only [if_pos]
    exact pow_tb.mpr rfl
  · simp only [if_neg c]
    exact (g1 o hs ho).2
/-- one more is settled -/
theorem set0_next (hkS : S.testBit k = true) (h : Set0 n S T L k U s v f0) {u : Nat} (hu : u < 16) (hg : Good S v k u) : Set0 n S T L (k + 1) (U ||| 2 ^ u) s (putV v k u) (fun o => if o = k then u else f0 o) := by
  obtain ⟨-, hF, hA, hU16, hU⟩ := h
  refine ⟨hg.2, fun o ho hs => ?_, fun o ho hn t => ?_, Nat.or_lt_two_pow (n := 16) hU16 (Nat.pow_lt_pow_right (by decide) hu), fun t => ?_⟩
  · unfold putV
    by_cases c : o = k
    · simp only [if_pos c]; exact ⟨trivial, hu⟩
    · simp only [if_neg c]; exact hF o (by omega) hs
  · unfold putV
    simp only [if_neg (show ¬ o = k by omega)]
    exact hA o (by omega) hn t
  · rw [or_tb, hU]
    constructor
    · rintro (⟨o, o1, o2, o3⟩ | z)
      · exact ⟨o, by omega, o2, by show (if o = k then u else f0 o) = t; rw [if_neg (show ¬ o = k by omega)]; exact o3⟩
      · exact ⟨k, by omega, hkS, by show (if k = k then u else f0 k) = t; rw [if_pos rfl]; exact z⟩
    · rintro ⟨o, o1, o2, o3⟩
      have o3 : (if o = k then u else f0 o) = t := o3
      by_cases c : o = k
      · rw [if_pos c] at o3; exact Or.inr o3
      · rw [if_neg c] at o3; exact Or.inl ⟨o, by omega, o2, o3⟩
theorem set0_skip (hkS : S.testBit k = false) (h : Set0 n S T L k U s v f0) : Set0 n S T L (k + 1) U s v f0 := by
  obtain ⟨hO, hF, hA, hU16, hU⟩ := h
  refine ⟨hO, fun o ho hs => ?_, fun o ho hn t => hA o (by omega) hn t, hU16, fun t => (hU t).trans ⟨fun ⟨o, o1, o2⟩ => ⟨o, by omega, o2⟩, fun ⟨o, o1, o2, o3⟩ => ?_⟩⟩
  · by_cases c : o = k
    · subst c; rw [hkS] at hs; exact absurd hs (by decide)
    · exact hF o (by omega) hs
  · by_cases c : o = k
    · subst c; rw [hkS] at o2; exact absurd o2 (by decide)
    · exact ⟨o, by omega, o2, o3⟩
end GD
section ST
variable {n S T L k U S' E : Nat} {v f0 : Nat → Nat} {mr : Mm}
theorem settle_b {K : Int32 → Int32 → Int32 → Int32 → Int32 → Int32 → Int32 → Mm → Option (Int32 × Mm)} {x1 x2 : Int32} (hn : GymOk (mr 1) n) (hT : mr 1 1 = nI T) (hE : mr 1 2 = nI E) (hS : S < 2 ^ n) (hLE : L < E) (hL : L < 16) (hE16 : E ≤ 16) (hk : k < n) (hkS : S.testBit k = true)
    (h : Set0 n S T L k U (mr 1) v f0) (hvk : v k < 65536) (hS' : ∀ o, S'.testBit o = true ↔ (S.testBit o = true ∧ k < o)) (hS64 : S' < 64) :
    ∀ (d t q q' : Nat) (m : Mm), t + d = L + 1 → T ≤ t → d < q → d < q' → (∃ u, t ≤ u ∧ u ≤ L ∧ Good S v k u) → GymIs 0 m (mr 1) → (∀ o, o < n → o ≠ k → m (gp 0 12) o = nI (v o) ∧ v o < 65536) →
    ∃ u f, u ≤ L ∧ Good S v k u ∧ fX1_settle_13 0 q (nI S) (nI k) (nI (v k)) (nI t) m = some (0, upA m (gp 0 12) f) ∧ OpenIs 0 n (upA m (gp 0 12) f) (putV v k u) ∧
      fX12_gathered_91 K q' x1 x2 (nI L) (nI U) (nI S') (nI t) (nI k) mr = K x1 x2 (nI L) (nI (U ||| 2 ^ u)) (nI S') (nI u) (nI (k + 1)) mr := by
  have h6 := hn.2.1
  have hp := pow6 h6
  have hU16 := h.2.2.2.1
  intro d
  induction d with
  | zero =>
    intro t q q' m hd _ _ _ hex _ _
    obtain ⟨u, u1, u2, -⟩ := hex
    omega
  | succ d ih =>
    intro t q q' m hd hTt hq hq' hex hG hO
    obtain ⟨q, rfl⟩ : ∃ z, q = z + 1 := ⟨q - 1, by omega⟩
    obtain ⟨q', rfl⟩ : ∃ z, q' = z + 1 := ⟨q' - 1, by omega⟩
    have h2t : 2 ^ t < 65536 := Nat.pow_lt_pow_right (m := t) (n := 16) (by decide) (by omega)
    have gi := good_iff h6 hS hL hk hkS h hS' hTt (show t ≤ L by omega)
    have hO1 : OpenIs 0 n (upA m (gp 0 12) (upd (m (gp 0 12)) k (nI (2 ^ t)))) (putV v k t) := fun o ho => by
      rw [upA_same]
      unfold putV
      by_cases c : o = k
      · subst c
        simp only [if_pos]
        exact ⟨pk_us, h2t⟩
      · simp only [if_neg c]
        rw [pk_un c]
        exact hO o ho c
    have next : ∀ g, (¬ Good S v k t) → ∃ u f, u ≤ L ∧ Good S v k u ∧ fX1_settle_13 0 q (nI S) (nI k) (nI (v k)) (nI (t + 1)) (upA m (gp 0 12) (upd (m (gp 0 12)) k g)) = some (0, upA m (gp 0 12) f) ∧ OpenIs 0 n (upA m (gp 0 12) f) (putV v k u) ∧
        fX12_gathered_91 K q' x1 x2 (nI L) (nI U) (nI S') (nI (t + 1)) (nI k) mr = K x1 x2 (nI L) (nI (U ||| 2 ^ u)) (nI S') (nI u) (nI (k + 1)) mr := fun g no => by
      obtain ⟨u, u1, u2, u3⟩ := hex
      obtain ⟨w, f, w1, w2, w3, w4, w5⟩ := ih (t + 1) q q' (upA m (gp 0 12) (upd (m (gp 0 12)) k g)) (by omega) (by omega) (by omega) (by omega) ⟨u, by
        by_cases c : u = t
        · subst c; exact absurd u3 no
        · omega, u2, u3⟩ hG.row12 (fun o ho c => by rw [upA_same, pk_un c]; exact hO o ho c)
      rw [upA_upA] at w3 w4
      exact ⟨w, f, w1, w2, w3, w4, w5⟩
    -- the reference's own step
    have ref : (¬ Good S v k t) → fX12_gathered_91 K (q' + 1) x1 x2 (nI L) (nI U) (nI S') (nI t) (nI k) mr = fX12_gathered_91 K q' x1 x2 (nI L) (nI U) (nI S') (nI (t + 1)) (nI k) mr := fun no => by
      rw [fX12_gathered_91, bitG (by omega) (by omega)]
      cases cU : U.testBit t
      · rw [if_neg (show ¬ false = true by decide), if_neg (show ¬ (0 : Int32) = 1 by decide), may_r (by omega) (hn.2.2.2.1 k hk) (nI_pos (by omega)), bd_s]
        cases cM : mayS (mr 1) k (nI t)
        · rw [if_pos b2f, lt_v, p1]
        · rw [if_neg b2t, one_n t (by omega), i_or2 _ _ (by omega) (by omega)]
          obtain ⟨b, e1, e2⟩ := canAll_r (S := S') (U := U ||| 2 ^ t) (L := L) hn hT hS64 (Nat.lt_trans (Nat.or_lt_two_pow (n := 16) hU16 h2t) (by decide)) (by omega) hL
          rw [e1, bd_s]
          cases b
          · rw [if_pos b2f, lt_v, p1]
          · exact absurd (gi.mpr ⟨cU, cM, e2.mp rfl⟩) no
      · rw [if_pos rfl, if_pos rfl, lt_v, p1]
    rw [fX1_settle_13, hG.1.2.2.1, hE, if_neg (nI_ge (by omega) (by omega)), gx_n (by omega) (by decide), ix_n (by omega), lt_v, one_n t (by omega), bitG (by omega) (by omega), upA_eq]
    cases cb : (v k).testBit t
    · rw [if_neg (show ¬ false = true by decide), if_neg (show ¬ (0 : Int32) = 1 by decide), lt_v, p1]
      have no : ¬ Good S v k t := fun z => by rw [z.1] at cb; exact absurd cb (by decide)
      rw [ref no]
      exact next _ no
    · obtain ⟨b, e1, e2⟩ := eachHasOne_c hn (hG.row12 (f := upd (m (gp 0 12)) k (nI (2 ^ t)))) hO1 hS
      rw [if_pos rfl, if_pos rfl, e1, bd_s]
      cases b
      · have no : ¬ Good S v k t := fun z => absurd (e2.mpr z.2) (by decide)
        rw [if_pos b2f, lt_v, p1, ref no]
        exact next _ no
      · have yes : Good S v k t := ⟨cb, e2.mp rfl⟩
        obtain ⟨g1, g2, g3⟩ := gi.mp yes
        rw [if_neg b2t]
        refine ⟨t, _, by omega, yes, rfl, hO1, ?_⟩
        obtain ⟨b, c1, c2⟩ := canAll_r (S := S') (U := U ||| 2 ^ t) (L := L) hn hT hS64 (Nat.lt_trans (Nat.or_lt_two_pow (n := 16) hU16 h2t) (by decide)) (by omega) hL
        have hb : b = true := c2.mpr g3
        have g2' : mayS (mr 1) k (nI t) = true := g2
        rw [fX12_gathered_91, bitG (by omega) (by omega), g1, if_neg (show ¬ false = true by decide), if_neg (show ¬ (0 : Int32) = 1 by decide), may_r (by omega) (hn.2.2.2.1 k hk) (nI_pos (by omega)), g2', bd_s, if_neg b2t, one_n t (by omega), i_or2 _ _ (by omega) (by omega), c1, hb, bd_s, if_neg b2t, lt_v, lt_v, p1]
theorem first_b {a : Nat} (hn : GymOk (mr 1) n) (hT : mr 1 1 = nI T) (hE : mr 1 2 = nI E) (hS : S < 2 ^ n) (hTL : T ≤ L) (hLE : L < E) (hL : L < 16) (hE16 : E ≤ 16) (ha : a < n) (haS : S.testBit a = true) :
    ∀ (d k q q' U S' : Nat) (v f0 : Nat → Nat) (x6 : Int32) (m : Mm), k + d = a + 1 → d < q → d < q' → Set0 n S T L k U (mr 1) v f0 → OpenIs 0 n m v → GymIs 0 m (mr 1) → S' < 64 → (∀ o, S'.testBit o = true ↔ (S.testBit o = true ∧ k ≤ o)) → (a < k → x6 = nI (f0 a)) →
    ∃ r f, fX1_firstRow_8 0 q (nI S) (nI a) (nI k) m = some (r, upA m (gp 0 12) f) ∧ fX12_gathered_56 q' (nI S) (nI a) (nI L) (nI U) (nI S') x6 (nI k) mr = some (r, mr) := by
  have h6 := hn.2.1
  have hp := pow6 h6
  intro d
  induction d with
  | zero =>
    intro k q q' U S' v f0 x6 m hd hq hq' h hO hG hS64 hS' hx
    obtain ⟨q, rfl⟩ : ∃ z, q = z + 1 := ⟨q - 1, by omega⟩
    obtain ⟨q', rfl⟩ : ∃ z, q' = z + 1 := ⟨q' - 1, by omega⟩
    obtain ⟨f1, f2⟩ := h.2.1 a (by omega) haS
    have lc : fX11_leastOf (nI (2 ^ f0 a)) m = some (nI (f0 a), m) := least_c m f2 (f0 a) 0 FL (by omega) (by unfold FL; omega)
    rw [fX1_firstRow_8, fX12_gathered_56, if_pos (nI_lt (by omega) (by omega)), if_pos (nI_lt (by omega) (by omega)), gx_n (by omega) (by decide), ix_n (by omega), (hO a ha).1, f1, lc, bd_s, hx (by omega)]
    exact ⟨nI (f0 a), m (gp 0 12), by rw [upA_self], rfl⟩
  | succ d ih =>
    intro k q q' U S' v f0 x6 m hd hq hq' h hO hG hS64 hS' hx
    obtain ⟨q, rfl⟩ : ∃ z, q = z + 1 := ⟨q - 1, by omega⟩
    obtain ⟨q', rfl⟩ : ∃ z, q' = z + 1 := ⟨q' - 1, by omega⟩
    have hkn : k < n := by omega
    rw [fX1_firstRow_8, fX12_gathered_56, if_neg (nI_nlt (by omega) (by omega)), if_neg (nI_nlt (by omega) (by omega)), bitG (by omega) (by omega)]
    cases cS : S.testBit k
    · rw [if_neg (show ¬ false = true by decide), if_neg (show ¬ (0 : Int32) = 1 by decide), if_neg (show ¬ (0 : Int32) = 1 by decide), lt_v, lt_v, p1]
      refine ih (k + 1) q q' U S' v f0 x6 m (by omega) (by omega) (by omega) (set0_skip cS h) hO hG hS64 (fun o => (hS' o).trans ⟨fun ⟨a1, a2⟩ => ⟨a1, ?_⟩, fun ⟨a1, a2⟩ => ⟨a1, by omega⟩⟩) (fun z => ?_)
      · by_cases c : o = k
        · subst c; rw [cS] at a1; exact absurd a1 (by decide)
        · omega
      · have : k = a := by omega
        subst this
        rw [cS] at haS
        exact absurd haS (by decide)
    · rw [if_pos rfl, if_pos rfl, if_pos rfl, off_6 S' hS64 k (by omega), lt_v, lt_v, hT]
      have hS2 : ∀ o, (S' ^^^ (S' &&& 2 ^ k)).testBit o = true ↔ (S.testBit o = true ∧ k < o) := fun o => by
        rw [off_tb, hS']
        exact ⟨fun ⟨⟨a1, a2⟩, a3⟩ => ⟨a1, by omega⟩, fun ⟨a1, a2⟩ => ⟨⟨a1, by omega⟩, by omega⟩⟩
      have hS64' : S' ^^^ (S' &&& 2 ^ k) < 64 := Nat.xor_lt_two_pow (n := 6) hS64 (Nat.lt_of_le_of_lt Nat.and_le_left hS64)
      obtain ⟨u, f, u1, u2, u3, u4, u5⟩ := settle_b (K := fun x1 x2 x3 x4 x5 x6 x7 m => fX12_gathered_56 q' x1 x2 x3 x4 x5 x6 x7 m) (x1 := nI S) (x2 := nI a) hn hT hE hS hLE hL hE16 hkn cS h (hO k hkn).2 hS2 hS64' (L + 1 - T) T FL FL m (by omega) (Nat.le_refl _) (by unfold FL; omega) (by unfold FL; omega) (good_ex h6 hS hkn cS h) hG (fun o ho _ => hO o ho)
      have st : fX1_settle 0 (nI S) (nI k) m = some (0, upA m (gp 0 12) f) := by
        unfold fX1_settle
        rw [gx_n (by omega) (by decide), ix_n (by omega), lt_v, lt_v, (hO k hkn).1, hG.1.2.1, hT]
        exact u3
      rw [st, bd_s, lt_v, p1, u5]
      obtain ⟨r, g, r1, r2⟩ := ih (k + 1) q q' (U ||| 2 ^ u) (S' ^^^ (S' &&& 2 ^ k)) (putV v k u) (fun o => if o = k then u else f0 o) (nI u) (upA m (gp 0 12) f) (by omega) (by omega) (by omega) (set0_next cS h (by omega) u2) u4 hG.row12 hS64' (fun o => (hS2 o).trans ⟨fun ⟨a1, a2⟩ => ⟨a1, by omega⟩, fun ⟨a1, a2⟩ => ⟨a1, by omega⟩⟩) (fun z => by show nI u = nI (if a = k then u else f0 a); rw [if_pos (show a = k by omega)])
      rw [upA_upA] at r1
      exact ⟨r, g, r1, r2⟩
end ST
theorem op_gathered (a1 a2 : Int32) : Op (fX11_gathered a1 a2) (fX12_gathered a1 a2) := by
  intro mc mr hR
  obtain ⟨n, hn⟩ := hR.2.1.1
  have h6 := hn.2.1
  have hp := pow6 h6
  unfold fX11_gathered fX12_gathered
  rw [isSet_r hn.1 h6, isSets_c hR.1.1 hn.1 h6, bd_s, bd_s]
  rcases isS_cases a1 (n := 2 ^ n) (by omega) with e | ⟨e, S, hS, rfl⟩
  · rw [e, if_pos b2f, if_pos b2f]; exact ⟨-1, mc, mr, rfl, rfl, hR⟩
  rw [e, if_neg b2t, if_neg b2t, has_c (n := n) (by rw [hR.1.1.1.1, hn.1]) (by omega), isOne_r hn.1, bd_s, bd_s]
  show ∃ r mc' mr', (if b2 (isS a2 n) = 0 then _ else _) = _ ∧ _ ∧ _
  rcases isS_cases a2 (n := n) (by omega) with e2 | ⟨e2, a, ha, rfl⟩
  · rw [e2, if_pos b2f, if_pos b2f]; exact ⟨-1, mc, mr, rfl, rfl, hR⟩
  rw [e2, if_neg b2t, if_neg b2t]
  obtain ⟨r, r', f, T, hT, hT16, q1, q2, q3⟩ := gathers_b hR.1.1 hn hS
  rw [q1, q2, bd_s, bd_s, bitG (by omega) (by omega)]
  rcases q3 with ⟨-, rfl, rfl⟩ | ⟨rfl, rfl, rfl⟩ | ⟨u, E, hS0, u1, uE, E16, hE, rfl, rfl, hM⟩
  · rw [if_pos (by decide), if_pos (by decide)]; exact ⟨-3, _, mr, rfl, rfl, hR.row12⟩
  · rw [if_neg (nI_pos (by omega)), if_neg (nI_pos (by omega)), zero_tb, if_neg (show ¬ false = true by decide), if_pos rfl, if_pos rfl]; exact ⟨-3, _, mr, rfl, rfl, hR.row12⟩
  rw [if_neg (nI_pos (by omega)), if_neg (nI_pos (by omega))]
  cases cb : S.testBit a
  · rw [if_neg (show ¬ false = true by decide), if_pos rfl, if_pos rfl]; exact ⟨-3, _, mr, rfl, rfl, hR.row12⟩
  rw [if_pos rfl, if_neg (show ¬ (1 : Int32) = 0 by decide), if_neg (show ¬ (1 : Int32) = 0 by decide), lt_v]
  have hG := (hR.1.1).row12 (f := f)
  unfold fX1_firstRow
  obtain ⟨g, v, o1, o2, o3⟩ := openUntil_c (L := u) hn hT (by omega) (by omega) hG
  have h0 : Set0 n S T u 0 0 (mr 1) v (fun _ => 0) := ⟨(own_m h6 hS (by omega) (by omega) o3).mpr hM, fun o ho => absurd ho (by omega), fun o _ ho t => o3 o ho t, by decide, fun t => ⟨fun z => absurd z (by rw [zero_tb]; decide), fun ⟨o, o1, _⟩ => absurd o1 (by omega)⟩⟩
  obtain ⟨r, w, r1, r2⟩ := first_b (a := a) hn hT hE hS u1 uE (by omega) E16 ha cb (a + 1) 0 FL FL 0 S v (fun _ => 0) (mr 1 1) _ (by omega) (by unfold FL; omega) (by unfold FL; omega) h0 o2 hG.row12 (by omega) (fun o => ⟨fun z => ⟨z, Nat.zero_le _⟩, fun z => z.1⟩) (fun z => by omega)
  rw [o1, bd_s]
  have r1' : fX1_firstRow_8 0 FL (nI S) (nI a) 0 (upA (upA mc (gp 0 12) f) (gp 0 12) g) = some (r, upA (upA (upA mc (gp 0 12) f) (gp 0 12) g) (gp 0 12) w) := r1
  rw [r1', bd_s, upA_upA, upA_upA]
  exact ⟨r, _, mr, rfl, r2, hR.row12⟩
