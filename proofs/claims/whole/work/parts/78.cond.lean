/-! conditions read, in both -/
section CO
variable {b : Nat → Nat} {N n : Nat} {pl en : Nat → Nat} {i σ d : Nat} {mc mr : Mm}
theorem cmp_pre {σ τ : Nat} {m m' : Mm} (h : Ce (pR τ) m m') (hs : σ ≤ τ) : cmpN (m' 1) σ (τ - σ) = cmpN (m 1) σ (τ - σ) := cmpN_same _ _ (fun j h1 h2 => h 1 j (by unfold pR; omega))
theorem cmp_add {σ τ : Nat} {m m' : Mm} (h : Ce (pR τ) m m') (hs : σ ≤ τ) (hx : m' 1 (103 + 3 * τ) = 3 ∨ m' 1 (103 + 3 * τ) = 4 ∨ m' 1 (103 + 3 * τ) = 5) : cmpN (m' 1) σ (τ + 1 - σ) = cmpN (m 1) σ (τ - σ) := by
  rw [show τ + 1 - σ = (τ - σ) + 1 by omega, cmpN_cat, cmp_pre h hs, show σ + (τ - σ) = τ by omega, cmpN, if_pos hx, cmpN]
  omega
theorem one116_bad {rec' : Mm → Option (Int32 × Mm)} (h : mr 0 10 = 1) (x : Int32) : fX12_oneHere_116 rec' x mr = some (0, mr) := by
  unfold fX12_oneHere_116
  rw [steps_bad h, bd_s]
  split <;> rfl
theorem par_n (c : Nat) (hc : c < 2 ^ 31) : nI c - nI c / 2 * 2 = nI (c % 2) := pk_rem (a := c) (d := 2) hc (by decide) (by decide)
/-- behind what a not stands before -/
theorem one_end {rec : Nat → Int32 → Mm → Option (Int32 × Mm)} {rec' : Mm → Option (Int32 × Mm)} {I P c j τ : Nat} {mc2 mr2 : Mm} (hX : Txt b N n pl en) (hI : I ≤ i) (hP : P + 3 * c ≤ pl i) (h2 : 2 * σ ≤ P) (hc : c ≤ 200)
    (h : Gd b N n pl en j τ d mc2 mr2) (hA : Acc pl i (pl i) σ mc mr j τ mc2 mr2) : Out b N n pl en I P σ d mc mr (fX8_readOne_72 rec 1 (nI (c % 2)) 1 mc2) (fX12_oneHere_116 rec' (nI c) mr2) := by
  obtain ⟨c1, c2, c3, c4, c5, c6⟩ := hA
  unfold fX8_readOne_72 fX12_oneHere_116
  rw [if_neg (show ¬ (1 : Int32) = 0 by decide), par_n c (by omega)]
  rcases Nat.mod_two_eq_zero_or_one c with e | e
  · rw [e, if_pos (show nI 0 = 0 from rfl), gb_1, if_neg (show ¬ nI 0 = 1 by decide)]
    exact Or.inl ⟨j, τ, mc2, mr2, rfl, rfl, h, c1, c2, by omega, c4, by omega, by omega⟩
  · rw [e, if_neg (show ¬ nI 1 = 0 by decide), if_pos (show nI 1 = 1 from rfl)]
    obtain ⟨mc3, mr3, q1, q2, q3, q4, q5, q6⟩ := add_b hX h (by omega) (a := 12) (l := 0) (r := 0) (x := 3) (y := 0) (z := 0) (Or.inr (Or.inr (Or.inr (Or.inl ⟨rfl, rfl⟩))))
    rw [q1, bd_s, q2, bd_s, gb_1]
    have hm := cmp_add q5 c4 (Or.inl q6)
    exact Or.inl ⟨j, τ + 1, mc3, mr3, rfl, rfl, q3, c1.tr (q4.mono (pC_mono c4)), c2.tr (q5.mono (pR_mono c4)), by omega, by omega, by omega, by omega⟩
theorem one_fail {rec : Nat → Int32 → Mm → Option (Int32 × Mm)} {rec' : Mm → Option (Int32 × Mm)} {I P c j : Nat} {mc2 mr2 : Mm} (c1 : Ce (pC σ) mc mc2) (c2 : Ce (pR σ) mr mr2) (h : Bad b N n pl en j mc2 mr2) (x : Int32) :
    Out b N n pl en I P σ d mc mr (fX8_readOne_72 rec 1 x 0 mc2) (fX12_oneHere_116 rec' (nI c) mr2) := by
  rw [one116_bad h.2.2.2.2]
  unfold fX8_readOne_72
  rw [if_pos rfl, gb_0]
  exact Or.inr ⟨j, mc2, mr2, rfl, rfl, c1, c2, h⟩
/-- what is asked of the reading of a condition within brackets -/
def RecOk (b : Nat → Nat) (N n : Nat) (pl en : Nat → Nat) (d : Nat) (rec : Nat → Int32 → Mm → Option (Int32 × Mm)) (rec' : Mm → Option (Int32 × Mm)) : Prop :=
  (d < 3 → ∀ i σ mc mr, Gd b N n pl en i σ (d + 1) mc mr → Out b N n pl en i (pl i) σ (d + 1) mc mr (rec 1 (nI (d + 1)) mc) (rec' mr)) ∧ (∀ mr, mr 0 10 = 1 → rec' mr = some (0, mr))
theorem one45_b {rec : Nat → Int32 → Mm → Option (Int32 × Mm)} {rec' : Mm → Option (Int32 × Mm)} {I P c : Nat} {mc0 mr0 : Mm} (hX : Txt b N n pl en) (hrec : RecOk b N n pl en d rec rec') (hd : d ≤ 3) (h : Gd b N n pl en i σ d mc mr)
    (hc0 : Ce (pC σ) mc0 mc) (hr0 : Ce (pR σ) mr0 mr) (hI : I ≤ i) (hP : P + 3 * c ≤ pl i) (h2 : 2 * σ ≤ P) (hc : c ≤ 200) :
    Out b N n pl en I P σ d mc0 mr0 (fX8_readOne_45 rec 1 (nI d) (nI (c % 2)) mc) (fX12_oneHere_35 rec' (nI c) mr) := by
  have n200 := hX.n_le
  obtain ⟨hi, ⟨a1, a2⟩, hT, hA, h10, h11, -⟩ := id h
  have b40 : fX12_isByte 40 mr = some (b2 (decide (Tk b N pl en i = nI 296)), mr) := byte_any hX hi hT hA (c := 40) (by decide)
  unfold fX8_readOne_45 fX12_oneHere_35
  rw [if_pos h10, b40, bd_s, a1, gx_n (by omega) (by decide), ix_n (by omega), (a2 i hi).1]
  by_cases ct : Tk b N pl en i = nI 296
  · rw [if_pos (show Tk b N pl en i = 296 from ct), decide_eq_true ct, if_neg b2t, h11]
    have hin := hX.lt hi (by omega) ct
    unfold fX8_readInner
    by_cases cd : d < 3
    · rw [if_neg (show ¬ (3 : Int32) ≤ nI d from nI_ge (b := 3) cd (by decide)), if_pos (show nI d < 3 from nI_lt (b := 3) cd (by decide))]
      obtain ⟨nx, mr2, n1, g1, f1⟩ := next_b hX h hin
      have s1 := hX.step hin
      unfold fX12_oneHere_65
      rw [nx, bd_s, p1, needs_ok h10, n1, bd_s, bd_s, lt_v, g1.2.2.2.2.2.1, p1]
      have g2 := g1.open_ (d + 1)
      have fc : Ce (pC σ) mc0 (up mc (rp 1 0) 12 (nI (i + 1))) := hc0.tr (f1 σ).1
      have fr : Ce (pR σ) mr0 (up mr2 0 11 (nI (d + 1))) := pR_up (hr0.tr (f1 σ).2) (by decide)
      rcases hrec.1 cd (i + 1) σ _ _ g2 with ⟨j, τ, mc3, mr3, e1, e2, g3, A1, A2, A3, A4, A5, A6⟩ | ⟨j, mc3, mr3, e1, e2, A1, A2, g3⟩
      · rw [e1, bd_s, if_neg (show ¬ (1 : Int32) = 0 by decide), e2, bd_s]
        obtain ⟨hj, ⟨z1, z2⟩, zT, zA, z10, z11, -⟩ := id g3
        have b41 : fX12_isByte 41 mr3 = some (b2 (decide (Tk b N pl en j = nI 297)), mr3) := byte_any hX hj zT zA (c := 41) (by decide)
        rw [b41, bd_s, z1, gx_n (by omega) (by decide), ix_n (by omega), (z2 j hj).1]
        by_cases cj : Tk b N pl en j = nI 297
        · have hjn := hX.lt hj (by omega) cj
          have s2 := hX.step hjn
          obtain ⟨nx2, mr4, n2, g4, f4⟩ := next_b hX g3 hjn
          rw [if_pos (show Tk b N pl en j = 297 from cj), decide_eq_true cj, show b2 true = 1 from rfl, nx2, bd_s, bd_s, needs_ok z10, n2, bd_s, bd_s, lt_v, g4.2.2.2.2.2.1, nI_pred]
          have g5 := g4.open_ d
          have hm := cmp_pre (σ := σ) (τ := τ) (pR_up (k := 11) (v := nI d) (f4 τ).2 (by decide)) A4
          exact one_end hX hI hP h2 hc g5 ⟨(fc.tr A1).tr (f4 σ).1, pR_up ((fr.tr A2).tr (f4 σ).2) (by decide), by omega, A4, by omega, by omega⟩
        · rw [if_neg (show ¬ Tk b N pl en j = 297 from cj), decide_eq_false cj, show b2 false = 0 from rfl, bd_s, needs_no z10, bd_s, lt_v]
          exact one_fail (fc.tr A1) (pR_up (pR_up (fr.tr A2) (by decide)) (by decide)) (g3.bad.open_ _) _
      · rw [e1, bd_s, if_pos rfl, e2, bd_s, bd_s]
        have b41 : fX12_isByte 41 mr3 = some (b2 (decide (Tk b N pl en j = nI 297)), mr3) := byte_any hX g3.1 g3.2.2.1 g3.2.2.2.1 (c := 41) (by decide)
        rw [b41, bd_s, needs_bad g3.2.2.2.2, bd_s, lt_v]
        exact one_fail (fc.tr A1) (pR_up (fr.tr A2) (by decide)) (g3.open_ _) _
    · have e3 : d = 3 := by omega
      rw [if_pos (show (3 : Int32) ≤ nI d from nI_le (a := 3) (by omega) (by omega)), if_neg (show ¬ nI d < 3 from nI_nlt (b := 3) (by omega) (by omega)), bd_s]
      unfold fX12_oneHere_65
      have g1 := h.bad
      have g2 := g1.open_ (up mr 0 10 1 0 11 + 1)
      rw [needs_no h10, bd_s, lt_v, hrec.2 _ g2.2.2.2.2, bd_s]
      have b41 : fX12_isByte 41 (up (up mr 0 10 1) 0 11 (up mr 0 10 1 0 11 + 1)) = some (b2 (decide (Tk b N pl en i = nI 297)), _) := byte_any hX g2.1 g2.2.2.1 g2.2.2.2.1 (c := 41) (by decide)
      rw [b41, bd_s, needs_bad g2.2.2.2.2, bd_s, lt_v]
      exact one_fail hc0 (pR_up (pR_up (pR_up hr0 (by decide)) (by decide)) (by decide)) (g2.open_ _) _
  · rw [if_neg (show ¬ Tk b N pl en i = 296 from ct), decide_eq_false ct, if_pos b2f]
    unfold fX12_oneHere_105
    rw [if_pos h10]
    rcases compare_b hX h with ⟨j, τ, mc3, mr3, e1, e2, g3, A1, A2, A3, A4, A5, A6⟩ | ⟨j, mc3, mr3, e1, e2, A1, A2, g3⟩
    · rw [e1, bd_s, e2, bd_s]
      exact one_end hX hI hP h2 hc g3 ⟨hc0.tr A1, hr0.tr A2, A3, A4, A5, A6⟩
    · rw [e1, bd_s, e2, bd_s]
      exact one_fail (hc0.tr A1) (hr0.tr A2) g3 _
theorem not12 (hX : Txt b N n pl en) (hi : i ≤ n) (hT : RT mr b N) (hA : AtTok b N (pl i) (en i) mr) : fX12_isName 3 110 111 116 116 mr = some (b2 (decide (Tk b N pl en i = 12)), mr) := isNot_t hT hX.1 hA (hX.e_ok hi)
theorem nots_b {rec : Nat → Int32 → Mm → Option (Int32 × Mm)} {rec' : Mm → Option (Int32 × Mm)} {I P : Nat} {mc0 mr0 : Mm} (hX : Txt b N n pl en) (hrec : RecOk b N n pl en d rec rec') (hd : d ≤ 3) (h2 : 2 * σ ≤ P) :
    ∀ (t i c q q' : Nat) (mc mr : Mm), n - i ≤ t → t < q → t < q' → Gd b N n pl en i σ d mc mr → Ce (pC σ) mc0 mc → Ce (pR σ) mr0 mr → I ≤ i → P + 3 * c ≤ pl i → c ≤ i →
    Out b N n pl en I P σ d mc0 mr0 (fX8_readOne_4 rec 1 q (nI d) (nI (c % 2)) (nI c) mc) (fX12_oneHere_2 rec' q' (nI c) mr) := by
  have n200 := hX.n_le
  have base : ∀ (i c q q' : Nat) (mc mr : Mm), ¬ Tk b N pl en i = 12 → Gd b N n pl en i σ d mc mr → Ce (pC σ) mc0 mc → Ce (pR σ) mr0 mr → I ≤ i → P + 3 * c ≤ pl i → c ≤ i →
      Out b N n pl en I P σ d mc0 mr0 (fX8_readOne_4 rec 1 (q + 1) (nI d) (nI (c % 2)) (nI c) mc) (fX12_oneHere_2 rec' (q' + 1) (nI c) mr) := fun i c q q' mc mr ct h hc0 hr0 hI hP hci => by
    obtain ⟨hi, ⟨a1, a2⟩, hT, hA, h10, h11, -⟩ := id h
    have e1 : fX12_oneHere_2 rec' (q' + 1) (nI c) mr = fX12_oneHere_35 rec' (nI c) mr := by
      rw [fX12_oneHere_2, if_pos h10, not12 hX hi hT hA, bd_s, decide_eq_false ct, if_pos b2f]
    have e2 : fX8_readOne_4 rec 1 (q + 1) (nI d) (nI (c % 2)) (nI c) mc = fX8_readOne_45 rec 1 (nI d) (nI (c % 2)) mc := by
      rw [fX8_readOne_4, a1, gx_n (by omega) (by decide), ix_n (by omega), (a2 i hi).1, if_neg ct]
      split <;> rfl
    rw [e1, e2]
    exact one45_b hX hrec hd h hc0 hr0 hI hP h2 (by omega)
  intro t
  induction t with
  | zero =>
    intro i c q q' mc mr ht hq hq' h hc0 hr0 hI hP hci
    obtain ⟨q, rfl⟩ : ∃ z, q = z + 1 := ⟨q - 1, by omega⟩
    obtain ⟨q', rfl⟩ : ∃ z, q' = z + 1 := ⟨q' - 1, by omega⟩
    exact base i c q q' mc mr (fun z => by have := hX.lt (t := 12) h.1 (by omega) z; omega) h hc0 hr0 hI hP hci
  | succ t ih =>
    intro i c q q' mc mr ht hq hq' h hc0 hr0 hI hP hci
    obtain ⟨q, rfl⟩ : ∃ z, q = z + 1 := ⟨q - 1, by omega⟩
    obtain ⟨q', rfl⟩ : ∃ z, q' = z + 1 := ⟨q' - 1, by omega⟩
    by_cases ct : Tk b N pl en i = 12
    · obtain ⟨hi, ⟨a1, a2⟩, hT, hA, h10, h11, -⟩ := id h
      have hin := hX.lt (t := 12) hi (by omega) ct
      obtain ⟨nx, mr2, n1, g1, f1⟩ := next_b hX h hin
      have s1 := hX.step hin
      have len : en i - pl i = 3 := len_t hX.2.1 hX.1 (hX.e_ok hi) (w := 12) (by decide) ct
      have e1 : fX12_oneHere_2 rec' (q' + 1) (nI c) mr = fX12_oneHere_2 rec' q' (nI (c + 1)) mr2 := by
        rw [fX12_oneHere_2, if_pos h10, not12 hX hi hT hA, bd_s, decide_eq_true ct, if_neg b2t, lt_v, n1, bd_s, p1]
      have e34 : ∀ s0, fX8_readOne_34 rec (fun x1 x2 x3 m => fX8_readOne_4 rec 1 q x1 x2 x3 m) 1 (nI d) (nI c) s0 mc = fX8_readOne_4 rec 1 q (nI d) s0 (nI (c + 1)) (up mc (rp 1 0) 12 (nI (i + 1))) := fun s0 => by
        unfold fX8_readOne_34
        rw [nx, bd_s, lt_v, p1]
      have e2 : fX8_readOne_4 rec 1 (q + 1) (nI d) (nI (c % 2)) (nI c) mc = fX8_readOne_4 rec 1 q (nI d) (nI ((c + 1) % 2)) (nI (c + 1)) (up mc (rp 1 0) 12 (nI (i + 1))) := by
        rw [fX8_readOne_4, a1, gx_n (by omega) (by decide), ix_n (by omega), (a2 i hi).1, if_pos ct, if_neg (show ¬ (200 : Int32) ≤ nI c from nI_ge (b := 200) (by omega) (by decide)), e34, e34]
        rcases Nat.mod_two_eq_zero_or_one c with e | e
        · rw [e, if_pos (show nI 0 = 0 from rfl), show (c + 1) % 2 = 1 by omega]; rfl
        · rw [e, if_neg (show ¬ nI 1 = 0 by decide), show (c + 1) % 2 = 0 by omega]; rfl
      rw [e1, e2]
      exact ih (i + 1) (c + 1) q q' _ mr2 (by omega) (by omega) (by omega) g1 (hc0.tr (f1 σ).1) (hr0.tr (f1 σ).2) (by omega) (by omega) (by omega)
    · exact base i c q q' mc mr ct h hc0 hr0 hI hP hci
theorem one_b {rec : Nat → Int32 → Mm → Option (Int32 × Mm)} {rec' : Mm → Option (Int32 × Mm)} (hX : Txt b N n pl en) (hrec : RecOk b N n pl en d rec rec') (hd : d ≤ 3) (h : Gd b N n pl en i σ d mc mr) :
    Out b N n pl en i (pl i) σ d mc mr (fX8_readOne rec 1 (nI d) mc) (fX12_oneHere rec' mr) := by
  have n200 := hX.n_le
  exact nots_b hX hrec hd h.2.2.2.2.2.2.2.2.1 n i 0 FL FL mc mr (by omega) (by unfold FL; omega) (by unfold FL; omega) h Ce.rf Ce.rf (Nat.le_refl _) (by omega) (by omega)
theorem oneHere_bad {rec' : Mm → Option (Int32 × Mm)} (h : mr 0 10 = 1) : fX12_oneHere rec' mr = some (0, mr) := by
  have hn : ¬ mr 0 10 = 0 := by rw [h]; decide
  unfold fX12_oneHere
  rw [show FL = 4095 + 1 from rfl, fX12_oneHere_2, if_neg hn]
  unfold fX12_oneHere_35
  rw [if_neg hn]
  unfold fX12_oneHere_105
  rw [if_neg hn]
  exact one116_bad h 0
/-- what a joining word adds -/
theorem acc_join {I P j τ k τ2 : Nat} {mc1 mr1 mc2 mr2 mc3 mr3 mc4 mr4 : Mm} (A : Acc pl I P σ mc mr j τ mc1 mr1) (fc : Ce (pC τ) mc1 mc2) (fr : Ce (pR τ) mr1 mr2) (hw : pl j + 2 ≤ pl (j + 1)) (B : Acc pl (j + 1) (pl (j + 1)) τ mc2 mr2 k τ2 mc3 mr3)
    (q4 : Ce (pC τ2) mc3 mc4) (q5 : Ce (pR τ2) mr3 mr4) (hx : mr4 1 (103 + 3 * τ2) = 3 ∨ mr4 1 (103 + 3 * τ2) = 4 ∨ mr4 1 (103 + 3 * τ2) = 5) : Acc pl I P σ mc mr k (τ2 + 1) mc4 mr4 := by
  obtain ⟨A1, A2, A3, A4, A5, A6⟩ := A
  obtain ⟨B1, B2, B3, B4, B5, B6⟩ := B
  have h1 := cmp_add q5 (σ := σ) (by omega) hx
  have h2 : cmpN (mr3 1) σ (τ2 - σ) = cmpN (mr1 1) σ (τ - σ) + cmpN (mr3 1) τ (τ2 - τ) := by
    rw [show τ2 - σ = (τ - σ) + (τ2 - τ) by omega, cmpN_cat, cmp_pre (fr.tr B2) A4, show σ + (τ - σ) = τ by omega]
  refine ⟨((A1.tr (fc.mono (pC_mono A4))).tr (B1.mono (pC_mono A4))).tr (q4.mono (pC_mono (by omega))), ((A2.tr (fr.mono (pR_mono A4))).tr (B2.mono (pR_mono A4))).tr (q5.mono (pR_mono (by omega))), by omega, by omega, by omega, by omega⟩
theorem and11 (hX : Txt b N n pl en) (hi : i ≤ n) (hT : RT mr b N) (hA : AtTok b N (pl i) (en i) mr) : fX12_isName 3 97 110 100 100 mr = some (b2 (decide (Tk b N pl en i = 11)), mr) := isAnd_t hT hX.1 hA (hX.e_ok hi)
theorem or10 (hX : Txt b N n pl en) (hi : i ≤ n) (hT : RT mr b N) (hA : AtTok b N (pl i) (en i) mr) : fX12_isTwo 111 114 mr = some (b2 (decide (Tk b N pl en i = 10)), mr) := isOr_t hT hX.1 hA (hX.e_ok hi)
theorem all_loop {rec : Nat → Int32 → Mm → Option (Int32 × Mm)} {rec' : Mm → Option (Int32 × Mm)} {I P : Nat} (hX : Txt b N n pl en) (hrec : RecOk b N n pl en d rec rec') (hd : d ≤ 3) :
    ∀ (t j τ c q q' : Nat) (mc1 mr1 : Mm), n - j ≤ t → t < q → t < q' → Gd b N n pl en j τ d mc1 mr1 → Acc pl I P σ mc mr j τ mc1 mr1 → c + 1 ≤ j →
    Out b N n pl en I P σ d mc mr (fX8_readAll_12 rec 1 q (nI d) (nI c) mc1) (fX12_allHere_4 rec' q' mr1) := by
  have n200 := hX.n_le
  intro t
  induction t with
  | zero =>
    intro j τ c q q' mc1 mr1 ht hq hq' h A hc
    obtain ⟨q, rfl⟩ : ∃ z, q = z + 1 := ⟨q - 1, by omega⟩
    obtain ⟨q', rfl⟩ : ∃ z, q' = z + 1 := ⟨q' - 1, by omega⟩
    obtain ⟨hi, ⟨a1, a2⟩, hT, hA, h10, h11, -⟩ := id h
    have ct : ¬ Tk b N pl en j = 11 := fun z => by have := hX.lt (t := 11) hi (by omega) z; omega
    rw [fX8_readAll_12, fX12_allHere_4, if_neg (show ¬ (200 : Int32) ≤ nI c from nI_ge (b := 200) (by omega) (by decide)), a1, gx_n (by omega) (by decide), ix_n (by omega), (a2 j hi).1, if_neg ct, if_pos h10, and11 hX hi hT hA, bd_s, decide_eq_false ct, if_pos b2f]
    exact Or.inl ⟨j, τ, mc1, mr1, rfl, rfl, h, A⟩
  | succ t ih =>
    intro j τ c q q' mc1 mr1 ht hq hq' h A hc
    obtain ⟨q, rfl⟩ : ∃ z, q = z + 1 := ⟨q - 1, by omega⟩
    obtain ⟨q', rfl⟩ : ∃ z, q' = z + 2 := ⟨q' - 2, by omega⟩
    obtain ⟨hi, ⟨a1, a2⟩, hT, hA, h10, h11, -⟩ := id h
    rw [fX8_readAll_12, fX12_allHere_4, if_neg (show ¬ (200 : Int32) ≤ nI c from nI_ge (b := 200) (by omega) (by decide)), a1, gx_n (by omega) (by decide), ix_n (by omega), (a2 j hi).1, if_pos h10, and11 hX hi hT hA, bd_s]
    by_cases ct : Tk b N pl en j = 11
    · have hin := hX.lt (t := 11) hi (by omega) ct
      obtain ⟨nx, mr2, n1, g1, f1⟩ := next_b hX h hin
      have s1 := hX.step hin
      have len : en j - pl j = 3 := len_t hX.2.1 hX.1 (hX.e_ok hi) (w := 11) (by decide) ct
      rw [if_pos ct, decide_eq_true ct, if_neg b2t, nx, bd_s, n1, bd_s]
      rcases one_b hX hrec hd g1 with ⟨k, τ2, mc3, mr3, e1, e2, g3, B⟩ | ⟨k, mc3, mr3, e1, e2, B1, B2, g3⟩
      · have hτ := h.2.2.2.2.2.2.2.2.1
        obtain ⟨mc4, mr4, q1, q2, q3, q4, q5, q6⟩ := add_b hX g3 (by have := B.2.2.2.2.1; omega) (a := 11) (l := 0) (r := 0) (x := 4) (y := 0) (z := 0) (Or.inr (Or.inr (Or.inr (Or.inr (Or.inl ⟨rfl, rfl⟩)))))
        rw [e1, bd_s, if_neg (show ¬ (1 : Int32) = 0 by decide), e2, bd_s, q1, bd_s, q2, bd_s, lt_v, p1]
        exact ih k (τ2 + 1) (c + 1) q (q' + 1) mc4 mr4 (by have := B.2.2.1; omega) (by omega) (by omega) q3 (acc_join A (f1 τ).1 (f1 τ).2 (by omega) B q4 q5 (Or.inr (Or.inl q6))) (by have := B.2.2.1; omega)
      · rw [e1, bd_s, if_pos rfl, e2, bd_s, steps_bad g3.2.2.2.2, bd_s, fX12_allHere_4, if_neg (show ¬ mr3 0 10 = 0 by rw [g3.2.2.2.2]; decide)]
        have A4 := A.2.2.2.1
        exact Or.inr ⟨k, mc3, mr3, rfl, rfl, (A.1.tr (f1 σ).1).tr (B1.mono (pC_mono A4)), (A.2.1.tr (f1 σ).2).tr (B2.mono (pR_mono A4)), g3⟩
    · rw [if_neg ct, decide_eq_false ct, if_pos b2f]
      exact Or.inl ⟨j, τ, mc1, mr1, rfl, rfl, h, A⟩
theorem all_b {rec : Nat → Int32 → Mm → Option (Int32 × Mm)} {rec' : Mm → Option (Int32 × Mm)} (hX : Txt b N n pl en) (hrec : RecOk b N n pl en d rec rec') (hd : d ≤ 3) (h : Gd b N n pl en i σ d mc mr) :
    Out b N n pl en i (pl i) σ d mc mr (fX8_readAll rec 1 (nI d) mc) (fX12_allHere rec' mr) := by
  have n200 := hX.n_le
  unfold fX8_readAll fX12_allHere
  rcases one_b hX hrec hd h with ⟨k, τ2, mc3, mr3, e1, e2, g3, B⟩ | ⟨k, mc3, mr3, e1, e2, B1, B2, g3⟩
  · rw [e1, bd_s, if_neg (show ¬ (1 : Int32) = 0 by decide), e2, bd_s]
    exact all_loop hX hrec hd n k τ2 0 FL FL mc3 mr3 (by omega) (by unfold FL; omega) (by unfold FL; omega) g3 B (by have := B.2.2.1; omega)
  · rw [e1, bd_s, if_pos rfl, e2, bd_s, show FL = 4095 + 1 from rfl, fX12_allHere_4, if_neg (show ¬ mr3 0 10 = 0 by rw [g3.2.2.2.2]; decide)]
    exact Or.inr ⟨k, mc3, mr3, rfl, rfl, B1, B2, g3⟩
theorem any_loop {rec : Nat → Int32 → Mm → Option (Int32 × Mm)} {rec' : Mm → Option (Int32 × Mm)} {I P : Nat} (hX : Txt b N n pl en) (hrec : RecOk b N n pl en d rec rec') (hd : d ≤ 3) :
    ∀ (t j τ c q q' : Nat) (mc1 mr1 : Mm), n - j ≤ t → t < q → t < q' → Gd b N n pl en j τ d mc1 mr1 → Acc pl I P σ mc mr j τ mc1 mr1 → c + 1 ≤ j →
    Out b N n pl en I P σ d mc mr (fX8_readAny_12 rec 1 q (nI d) (nI c) mc1) (fX12_condHere_4 rec' q' mr1) := by
  have n200 := hX.n_le
  intro t
  induction t with
  | zero =>
    intro j τ c q q' mc1 mr1 ht hq hq' h A hc
    obtain ⟨q, rfl⟩ : ∃ z, q = z + 1 := ⟨q - 1, by omega⟩
    obtain ⟨q', rfl⟩ : ∃ z, q' = z + 1 := ⟨q' - 1, by omega⟩
    obtain ⟨hi, ⟨a1, a2⟩, hT, hA, h10, h11, -⟩ := id h
    have ct : ¬ Tk b N pl en j = 10 := fun z => by have := hX.lt (t := 10) hi (by omega) z; omega
    rw [fX8_readAny_12, fX12_condHere_4, if_neg (show ¬ (200 : Int32) ≤ nI c from nI_ge (b := 200) (by omega) (by decide)), a1, gx_n (by omega) (by decide), ix_n (by omega), (a2 j hi).1, if_neg ct, if_pos h10, or10 hX hi hT hA, bd_s, decide_eq_false ct, if_pos b2f]
    exact Or.inl ⟨j, τ, mc1, mr1, rfl, rfl, h, A⟩
  | succ t ih =>
    intro j τ c q q' mc1 mr1 ht hq hq' h A hc
    obtain ⟨q, rfl⟩ : ∃ z, q = z + 1 := ⟨q - 1, by omega⟩
    obtain ⟨q', rfl⟩ : ∃ z, q' = z + 2 := ⟨q' - 2, by omega⟩
    obtain ⟨hi, ⟨a1, a2⟩, hT, hA, h10, h11, -⟩ := id h
    rw [fX8_readAny_12, fX12_condHere_4, if_neg (show ¬ (200 : Int32) ≤ nI c from nI_ge (b := 200) (by omega) (by decide)), a1, gx_n (by omega) (by decide), ix_n (by omega), (a2 j hi).1, if_pos h10, or10 hX hi hT hA, bd_s]
    by_cases ct : Tk b N pl en j = 10
    · have hin := hX.lt (t := 10) hi (by omega) ct
      obtain ⟨nx, mr2, n1, g1, f1⟩ := next_b hX h hin
      have s1 := hX.step hin
      have len : en j - pl j = 2 := len_t hX.2.1 hX.1 (hX.e_ok hi) (w := 10) (by decide) ct
      rw [if_pos ct, decide_eq_true ct, if_neg b2t, nx, bd_s, n1, bd_s]
      rcases all_b hX hrec hd g1 with ⟨k, τ2, mc3, mr3, e1, e2, g3, B⟩ | ⟨k, mc3, mr3, e1, e2, B1, B2, g3⟩
      · have hτ := h.2.2.2.2.2.2.2.2.1
        obtain ⟨mc4, mr4, q1, q2, q3, q4, q5, q6⟩ := add_b hX g3 (by have := B.2.2.2.2.1; omega) (a := 10) (l := 0) (r := 0) (x := 5) (y := 0) (z := 0) (Or.inr (Or.inr (Or.inr (Or.inr (Or.inr ⟨rfl, rfl⟩)))))
        rw [e1, bd_s, if_neg (show ¬ (1 : Int32) = 0 by decide), e2, bd_s, q1, bd_s, q2, bd_s, lt_v, p1]
        exact ih k (τ2 + 1) (c + 1) q (q' + 1) mc4 mr4 (by have := B.2.2.1; omega) (by omega) (by omega) q3 (acc_join A (f1 τ).1 (f1 τ).2 (by omega) B q4 q5 (Or.inr (Or.inr q6))) (by have := B.2.2.1; omega)
      · rw [e1, bd_s, if_pos rfl, e2, bd_s, steps_bad g3.2.2.2.2, bd_s, fX12_condHere_4, if_neg (show ¬ mr3 0 10 = 0 by rw [g3.2.2.2.2]; decide)]
        have A4 := A.2.2.2.1
        exact Or.inr ⟨k, mc3, mr3, rfl, rfl, (A.1.tr (f1 σ).1).tr (B1.mono (pC_mono A4)), (A.2.1.tr (f1 σ).2).tr (B2.mono (pR_mono A4)), g3⟩
    · rw [if_neg ct, decide_eq_false ct, if_pos b2f]
      exact Or.inl ⟨j, τ, mc1, mr1, rfl, rfl, h, A⟩
theorem any_b {rec : Nat → Int32 → Mm → Option (Int32 × Mm)} {rec' : Mm → Option (Int32 × Mm)} (hX : Txt b N n pl en) (hrec : RecOk b N n pl en d rec rec') (hd : d ≤ 3) (h : Gd b N n pl en i σ d mc mr) :
    Out b N n pl en i (pl i) σ d mc mr (fX8_readAny rec 1 (nI d) mc) (fX12_condHere rec' mr) := by
  have n200 := hX.n_le
  unfold fX8_readAny fX12_condHere
  rcases all_b hX hrec hd h with ⟨k, τ2, mc3, mr3, e1, e2, g3, B⟩ | ⟨k, mc3, mr3, e1, e2, B1, B2, g3⟩
  · rw [e1, bd_s, if_neg (show ¬ (1 : Int32) = 0 by decide), e2, bd_s]
    exact any_loop hX hrec hd n k τ2 0 FL FL mc3 mr3 (by omega) (by unfold FL; omega) (by unfold FL; omega) g3 B (by have := B.2.2.1; omega)
  · rw [e1, bd_s, if_pos rfl, e2, bd_s, show FL = 4095 + 1 from rfl, fX12_condHere_4, if_neg (show ¬ mr3 0 10 = 0 by rw [g3.2.2.2.2]; decide)]
    exact Or.inr ⟨k, mc3, mr3, rfl, rfl, B1, B2, g3⟩
theorem cond_bad {rec' : Mm → Option (Int32 × Mm)} (h : mr 0 10 = 1) : fX12_condHere rec' mr = some (0, mr) := by
  have hn : ¬ mr 0 10 = 0 := by rw [h]; decide
  unfold fX12_condHere fX12_allHere
  rw [oneHere_bad h, bd_s, show FL = 4095 + 1 from rfl, fX12_allHere_4, if_neg hn, bd_s, fX12_condHere_4, if_neg hn]
theorem cond_b (hX : Txt b N n pl en) : ∀ (e d f f' : Nat), d + e = 3 → e < f → e + 1 < f' → ∀ (i σ : Nat) (mc mr : Mm), Gd b N n pl en i σ d mc mr → Out b N n pl en i (pl i) σ d mc mr (rX8_readAny f 1 (nI d) mc) (rX12_condHere f' mr) := by
  intro e
  induction e with
  | zero =>
    intro d f f' hd hf hf' i σ mc mr h
    obtain ⟨f, rfl⟩ : ∃ z, f = z + 1 := ⟨f - 1, by omega⟩
    obtain ⟨f', rfl⟩ : ∃ z, f' = z + 2 := ⟨f' - 2, by omega⟩
    rw [rX8_readAny, rX12_condHere]
    exact any_b hX ⟨fun z => by omega, fun m hm => by rw [rX12_condHere]; exact cond_bad hm⟩ (by omega) h
  | succ e ih =>
    intro d f f' hd hf hf' i σ mc mr h
    obtain ⟨f, rfl⟩ : ∃ z, f = z + 1 := ⟨f - 1, by omega⟩
    obtain ⟨f', rfl⟩ : ∃ z, f' = z + 2 := ⟨f' - 2, by omega⟩
    rw [rX8_readAny, rX12_condHere]
    exact any_b hX ⟨fun z i σ mc mr h => ih (d + 1) f (f' + 1) (by omega) (by omega) (by omega) i σ mc mr h, fun m hm => by rw [rX12_condHere]; exact cond_bad hm⟩ (by omega) h
end CO
