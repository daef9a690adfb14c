/-! a rule read, in both -/
def qC (q _k : Nat) : Prop := 24 ≤ q ∧ q ≤ 33
def qR (q k : Nat) : Prop := (q = 0 ∧ 6 ≤ k ∧ k ≤ 11) ∨ (q = 1 ∧ (k = 5 ∨ k = 7 ∨ (53 ≤ k ∧ k < 85) ∨ (103 ≤ k ∧ k < 553)))
theorem pC_q {σ : Nat} : ∀ q k, pC σ q k → qC q k := by intro q k; unfold pC qC rp; omega
theorem pR_q {σ : Nat} : ∀ q k, pR σ q k → qR q k := by intro q k; unfold pR qR; omega
section RU
variable (κ σ : Nat) (mc mr : Mm)
def RuleAt (r : Nat) : Prop := (mc (rp 1 1) r = mr 1 (53 + 4 * r) ∧ mc (rp 1 2) r = mr 1 (53 + 4 * r + 1) ∧ mc (rp 1 3) r = mr 1 (53 + 4 * r + 2) ∧ mc (rp 1 4) r = mr 1 (53 + 4 * r + 3)) ∧
  Bd 0 5 (mr 1 (53 + 4 * r)) ∧ Bd 0 2 (mr 1 (53 + 4 * r + 1)) ∧ ∃ a c : Nat, a ≤ c ∧ c ≤ σ ∧ mr 1 (53 + 4 * r + 2) = nI a ∧ mr 1 (53 + 4 * r + 3) = nI c ∧ cmpN (mr 1) a (c - a) ≤ 60
def RuP : Prop := mc (rp 1 0) 0 = nI κ ∧ mr 1 5 = nI κ ∧ κ ≤ 8 ∧ ∀ r, r < κ → RuleAt σ mc mr r
end RU
section RV
variable {b : Nat → Nat} {N n : Nat} {pl en : Nat → Nat} {i σ d κ : Nat} {mc mr : Mm}
theorem RuP.fr {τ : Nat} {mc' mr' : Mm} (h : RuP κ σ mc mr) (hs : σ ≤ τ) (c : Ce (pC σ) mc mc') (r : Ce (pR σ) mr mr') : RuP κ τ mc' mr' := by
  obtain ⟨h1, h2, h3, h4⟩ := h
  refine ⟨by rw [c _ _ (by unfold pC rp; omega)]; exact h1, by rw [r _ _ (by unfold pR; omega)]; exact h2, h3, fun k hk => ?_⟩
  obtain ⟨⟨a1, a2, a3, a4⟩, b1, b2, x, y, xy, yσ, hx, hy, hc⟩ := h4 k hk
  have cq : ∀ w, 1 ≤ w → w ≤ 4 → mc' (rp 1 w) k = mc (rp 1 w) k := fun w w1 w2 => c _ _ (by unfold pC rp; omega)
  have rq : ∀ w, w < 4 → mr' 1 (53 + 4 * k + w) = mr 1 (53 + 4 * k + w) := fun w hw => r _ _ (by unfold pR; omega)
  have r0 : mr' 1 (53 + 4 * k) = mr 1 (53 + 4 * k) := rq 0 (by decide)
  unfold RuleAt
  rw [cq 1 (by decide) (by decide), cq 2 (by decide) (by decide), cq 3 (by decide) (by decide), cq 4 (by decide) (by decide), r0, rq 1 (by decide), rq 2 (by decide), rq 3 (by decide)]
  exact ⟨⟨a1, a2, a3, a4⟩, b1, b2, x, y, xy, by omega, hx, hy, by rw [cmpN_same _ _ (fun j h1 h2 => r 1 j (by unfold pR; omega))]; exact hc⟩
theorem tail97_bad (hX : Txt b N n pl en) (h : Bad b N n pl en i mc mr) (x1 x2 x3 x4 s0 : Int32) : fX12_ruleHere_97 x1 x2 x3 x4 s0 mr = some (0, mr) := by
  have b59 : fX12_isByte 59 mr = some (b2 (decide (Tk b N pl en i = nI 315)), mr) := byte_any hX h.1 h.2.2.1 h.2.2.2.1 (c := 59) (by decide)
  unfold fX12_ruleHere_97
  rw [needs_bad h.2.2.2.2, bd_s, b59, bd_s, needs_bad h.2.2.2.2, bd_s, if_neg (show ¬ mr 0 10 = 0 by rw [h.2.2.2.2]; decide)]
theorem tail80_bad (hX : Txt b N n pl en) (h : Bad b N n pl en i mc mr) (x1 x2 x3 : Int32) : fX12_ruleHere_80 x1 x2 x3 mr = some (0, mr) := by
  obtain ⟨r, f1, -⟩ := doH_r h.2.2.1 hX.1 h.2.2.2.1 (hX.e_ok h.1)
  unfold fX12_ruleHere_80
  rw [f1, bd_s, tail97_bad hX h, tail97_bad hX h]
  split <;> rfl
theorem rule38_no (hX : Txt b N n pl en) (h : Gd b N n pl en i σ d mc mr) (x1 x2 : Int32) : fX12_ruleHere_38 x1 x2 0 mr = some (0, up mr 0 10 1) := by
  unfold fX12_ruleHere_38
  rw [needs_no h.2.2.2.2.1, bd_s, lt_v, if_neg (show ¬ up mr 0 10 1 0 10 = 0 by rw [up_at]; decide), tail80_bad hX h.bad]
def RuleOut (b : Nat → Nat) (N n : Nat) (pl en : Nat → Nat) (I κ : Nat) (mc mr : Mm) (fc fr : Option (Int32 × Mm)) : Prop :=
  (∃ i τ d mc' mr', fc = some (1, mc') ∧ fr = some (0, mr') ∧ Gd b N n pl en i τ d mc' mr' ∧ RuP (κ + 1) τ mc' mr' ∧ I < i ∧ Ce qC mc mc' ∧ Ce qR mr mr') ∨
  (∃ i mc' mr', fc = some (0, mc') ∧ fr = some (0, mr') ∧ Bad b N n pl en i mc' mr' ∧ Ce qC mc mc' ∧ Ce qR mr mr')
theorem qR_up {k : Nat} {m0 m : Mm} {v : Int32} (h : Ce qR m0 m) (hk : 6 ≤ k ∧ k ≤ 11) : Ce qR m0 (up m 0 k v) := h.up (by unfold qR; omega)
theorem six_n {w : Nat} (h : 6 ≤ w) : nI w - 6 = nI (w - 6) := by rw [show (6 : Int32) = nI 6 from rfl, pk_sub h]
theorem store_b (h : Gd b N n pl en i σ d mc mr) (hR : RuP κ σ mc mr) (hκ : κ < 8) {w u β : Nat} (hw : w ≤ 5) (hu : u ≤ 2) (hβ : β ≤ σ) (hc : cmpN (mr 1) β (σ - β) ≤ 60) (hσ : σ ≤ 100) :
    Gd b N n pl en i σ d (up (up (up (up (up mc (rp 1 1) κ (nI w)) (rp 1 2) κ (nI u)) (rp 1 3) κ (nI β)) (rp 1 4) κ (nI σ)) (rp 1 0) 0 (nI (κ + 1)))
      (up (up (up (up (up mr 1 (53 + 4 * κ) (nI w)) 1 (53 + 4 * κ + 1) (nI u)) 1 (53 + 4 * κ + 2) (nI β)) 1 (53 + 4 * κ + 3) (nI σ)) 1 5 (nI (κ + 1))) ∧
    RuP (κ + 1) σ (up (up (up (up (up mc (rp 1 1) κ (nI w)) (rp 1 2) κ (nI u)) (rp 1 3) κ (nI β)) (rp 1 4) κ (nI σ)) (rp 1 0) 0 (nI (κ + 1)))
      (up (up (up (up (up mr 1 (53 + 4 * κ) (nI w)) 1 (53 + 4 * κ + 1) (nI u)) 1 (53 + 4 * κ + 2) (nI β)) 1 (53 + 4 * κ + 3) (nI σ)) 1 5 (nI (κ + 1))) := by
  generalize hmc : up (up (up (up (up mc (rp 1 1) κ (nI w)) (rp 1 2) κ (nI u)) (rp 1 3) κ (nI β)) (rp 1 4) κ (nI σ)) (rp 1 0) 0 (nI (κ + 1)) = mc'
  generalize hmr : up (up (up (up (up mr 1 (53 + 4 * κ) (nI w)) 1 (53 + 4 * κ + 1) (nI u)) 1 (53 + 4 * κ + 2) (nI β)) 1 (53 + 4 * κ + 3) (nI σ)) 1 5 (nI (κ + 1)) = mr'
  have cx : ∀ q k, ¬ (q = rp 1 0 ∧ k = 0) → (q < rp 1 1 ∨ rp 1 4 < q) → mc' q k = mc q k := fun q k h1 h2 => by
    rw [← hmc, up_ne (by omega), up_row (by unfold rp at h2 ⊢; omega), up_row (by unfold rp at h2 ⊢; omega), up_row (by unfold rp at h2 ⊢; omega), up_row (by unfold rp at h2 ⊢; omega)]
  have r1 : rp 1 1 ≠ rp 1 0 := rp_ne (by decide)
  have ck : ∀ w' k, 1 ≤ w' → w' ≤ 4 → mc' (rp 1 w') k = if k = κ then (if w' = 1 then nI w else if w' = 2 then nI u else if w' = 3 then nI β else nI σ) else mc (rp 1 w') k := fun w' k h1 h2 => by
    rw [← hmc, up_row (rp_ne (by omega))]
    rcases (show w' = 1 ∨ w' = 2 ∨ w' = 3 ∨ w' = 4 by omega) with rfl | rfl | rfl | rfl
    · rw [up_row (rp_ne (by decide)), up_row (rp_ne (by decide)), up_row (rp_ne (by decide)), up_app, if_pos rfl]; rfl
    · rw [up_row (rp_ne (by decide)), up_row (rp_ne (by decide)), up_app, if_pos rfl, up_row (rp_ne (by decide))]; rfl
    · rw [up_row (rp_ne (by decide)), up_app, if_pos rfl, up_row (rp_ne (by decide)), up_row (rp_ne (by decide))]; rfl
    · rw [up_app, if_pos rfl, up_row (rp_ne (by decide)), up_row (rp_ne (by decide)), up_row (rp_ne (by decide))]; rfl
  have rq : ∀ q, q ≠ 1 → mr' q = mr q := fun q hq => by rw [← hmr, up_row hq, up_row hq, up_row hq, up_row hq, up_row hq]
  have rx : ∀ k, k ≠ 5 → (k < 53 + 4 * κ ∨ 53 + 4 * κ + 3 < k) → mr' 1 k = mr 1 k := fun k h1 h2 => by
    rw [← hmr, up_ne (Or.inr h1), up_ne (Or.inr (by omega)), up_ne (Or.inr (by omega)), up_ne (Or.inr (by omega)), up_ne (Or.inr (by omega))]
  have n0 : mr' 1 (53 + 4 * κ) = nI w := by rw [← hmr, up_ne (Or.inr (by omega)), up_ne (Or.inr (by omega)), up_ne (Or.inr (by omega)), up_ne (Or.inr (by omega)), up_at]
  have n1 : mr' 1 (53 + 4 * κ + 1) = nI u := by rw [← hmr, up_ne (Or.inr (by omega)), up_ne (Or.inr (by omega)), up_ne (Or.inr (by omega)), up_at]
  have n2 : mr' 1 (53 + 4 * κ + 2) = nI β := by rw [← hmr, up_ne (Or.inr (by omega)), up_ne (Or.inr (by omega)), up_at]
  have n3 : mr' 1 (53 + 4 * κ + 3) = nI σ := by rw [← hmr, up_ne (Or.inr (by omega)), up_at]
  have n5 : mr' 1 5 = nI (κ + 1) := by rw [← hmr, up_at]
  have c5 : mc' (rp 1 0) 0 = nI (κ + 1) := by rw [← hmc, up_at]
  have cm : ∀ k e, cmpN (mr' 1) k e = cmpN (mr 1) k e := fun k e => cmpN_same _ _ (fun j h1 h2 => rx j (by omega) (by omega))
  obtain ⟨hi, ⟨a1, a2⟩, hT, hA, h10, h11, h8, h7, h2, hS⟩ := h
  obtain ⟨p1', p2', p3', p4'⟩ := hR
  refine ⟨⟨hi, ⟨?_, fun k hk => ?_⟩, hT.of ?_ ?_, hA.of fun k h1 h2 => ?_, ?_, ?_, ?_, ?_, h2, fun k hk => ?_⟩, c5, n5, by omega, fun r hr => ?_⟩
  · rw [cx _ _ (by omega) (by unfold rp; omega)]; exact a1
  · rw [cx _ _ (by unfold rp; omega) (by unfold rp; omega), cx _ _ (by unfold rp; omega) (by unfold rp; omega)]; exact a2 k hk
  · rw [rq 0 (by decide)]
  · rw [rq 4 (by decide)]
  · rw [rq 0 (by decide)]
  · rw [rq 0 (by decide)]; exact h10
  · rw [rq 0 (by decide)]; exact h11
  · rw [cx _ _ (by omega) (by unfold rp; omega)]; exact h8
  · rw [rx 7 (by decide) (by omega)]; exact h7
  · rw [cx _ _ (by unfold rp; omega) (by unfold rp; omega), cx _ _ (by unfold rp; omega) (by unfold rp; omega), cx _ _ (by unfold rp; omega) (by unfold rp; omega), rx _ (by omega) (by omega), rx _ (by omega) (by omega), rx _ (by omega) (by omega)]
    exact hS k hk
  · unfold RuleAt
    by_cases e : r = κ
    · subst e
      rw [ck 1 _ (by decide) (by decide), ck 2 _ (by decide) (by decide), ck 3 _ (by decide) (by decide), ck 4 _ (by decide) (by decide), n0, n1, n2, n3]
      exact ⟨⟨(if_pos rfl).trans rfl, (if_pos rfl).trans rfl, (if_pos rfl).trans rfl, (if_pos rfl).trans rfl⟩, ⟨w, by omega, hw, rfl⟩, ⟨u, by omega, hu, rfl⟩, β, σ, hβ, Nat.le_refl _, rfl, rfl, by rw [cm]; exact hc⟩
    · obtain ⟨⟨z1, z2, z3, z4⟩, y1, y2, x, y, xy, yσ, hx, hy, hcc⟩ := p4' r (by omega)
      rw [ck 1 _ (by decide) (by decide), ck 2 _ (by decide) (by decide), ck 3 _ (by decide) (by decide), ck 4 _ (by decide) (by decide), rx (53 + 4 * r) (by omega) (by omega), rx (53 + 4 * r + 1) (by omega) (by omega), rx (53 + 4 * r + 2) (by omega) (by omega), rx (53 + 4 * r + 3) (by omega) (by omega), if_neg e, if_neg e, if_neg e, if_neg e]
      exact ⟨⟨z1, z2, z3, z4⟩, y1, y2, x, y, xy, yσ, hx, hy, by rw [cm]; exact hcc⟩
/-- behind the condition -/
theorem tail58_b {mc0 mr0 : Mm} {I w β : Nat} (hX : Txt b N n pl en) (h : Gd b N n pl en i σ d mc mr) (hR : RuP κ σ mc mr) (hκ : κ < 8) (hw : w ≤ 5) (hβ : β ≤ σ) (hc : cmpN (mr 1) β (σ - β) ≤ 60) (hI : I ≤ i) (fc : Ce qC mc0 mc) (fr : Ce qR mr0 mr) :
    RuleOut b N n pl en I κ mc0 mr0 (fX8_readRule_58 1 (nI w) (nI β) mc) (fX12_ruleHere_80 (nI (53 + 4 * κ)) (nI w) (nI β) mr) := by
  have n200 := hX.n_le
  have hle := hX.le h.1
  have hN := hX.1
  obtain ⟨hi, ⟨a1, a2⟩, hT, hA, h10, h11, h8, h7, h2, hS⟩ := id h
  obtain ⟨r, f1, f2⟩ := res_t hX.2.1 hX.1 (hX.e_ok hi) (by decide) (by decide) (doH_r hT hX.1 hA (hX.e_ok hi))
  unfold fX8_readRule_58 fX12_ruleHere_80
  rw [a1, gx_n (by omega) (by decide), ix_n (by omega), (a2 i hi).1, lt_v, f1, bd_s]
  rcases f2 with ⟨w', w1, w2, w3, rfl⟩ | ⟨rfl, w1⟩
  · have w3' : Tk b N pl en i = nI w' := w3
    have hin := hX.lt hi (by omega) w3'
    obtain ⟨nx, mr2, n1, g1, fr1⟩ := next_b hX h hin
    rw [w3', if_neg (show ¬ nI w' < 6 from nI_nlt (b := 6) (by omega) (by omega)), if_pos (show nI w' ≤ 8 from nI_le (b := 8) (by omega) (by decide)), nx, bd_s, if_neg (nI_pos (by omega))]
    unfold fX12_ruleHere_97
    rw [needs_ok h10, n1, bd_s, bd_s]
    obtain ⟨hi2, ⟨z1, z2⟩, zT, zA, z10, z11, z8, z7, -⟩ := id g1
    have b59 : fX12_isByte 59 mr2 = some (b2 (decide (Tk b N pl en (i + 1) = nI 315)), mr2) := byte_any hX hi2 zT zA (c := 59) (by decide)
    rw [b59, bd_s, z1, gx_n (by omega) (by decide), ix_n (by omega), (z2 (i + 1) hi2).1]
    by_cases ct : Tk b N pl en (i + 1) = nI 315
    · have hin2 := hX.lt hi2 (by omega) ct
      obtain ⟨nx2, mr3, n2, g2, fr2⟩ := next_b hX g1 hin2
      have hR2 := (hR.fr (Nat.le_refl σ) (fr1 σ).1 (fr1 σ).2).fr (Nat.le_refl σ) (fr2 σ).1 (fr2 σ).2
      have hc2 : cmpN (mr3 1) β (σ - β) ≤ 60 := by
        rw [cmp_pre (fr2 σ).2 hβ, cmp_pre (fr1 σ).2 hβ]; exact hc
      obtain ⟨G, P⟩ := store_b g2 hR2 hκ hw (show w' - 6 ≤ 2 by omega) hβ hc2 (by omega)
      obtain ⟨q1, q2, -⟩ := hR2
      rw [if_pos (show Tk b N pl en (i + 1) = 315 from ct), decide_eq_true ct, show b2 true = 1 from rfl, nx2, bd_s, needs_ok z10, n2, bd_s, bd_s, if_pos g2.2.2.2.2.1]
      have R : ∀ k k' : Nat, k ≠ k' → rp 1 k ≠ rp 1 k' := fun k k' z => rp_ne z
      have g8 : up (up mc (rp 1 0) 12 (nI (i + 1))) (rp 1 0) 12 (nI (i + 1 + 1)) (rp 1 0) 8 = nI σ := g2.2.2.2.2.2.2.1
      have g7 := g2.2.2.2.2.2.2.2.1
      rw [q1, gx_n (by omega) (by decide), ix_n (by omega), lt_v, up_row (R 0 1 (by decide)), q1, gx_n (by omega) (by decide), ix_n (by omega), lt_v, up_row (R 0 2 (by decide)), up_row (R 0 1 (by decide)), q1, gx_n (by omega) (by decide), ix_n (by omega), lt_v,
        up_row (R 0 3 (by decide)), up_row (R 0 2 (by decide)), up_row (R 0 1 (by decide)), q1, g8, gx_n (by omega) (by decide), ix_n (by omega), lt_v, up_row (R 0 4 (by decide)), up_row (R 0 3 (by decide)), up_row (R 0 2 (by decide)), up_row (R 0 1 (by decide)), q1, lt_v, six_n w1, p1 (n := κ)]
      rw [gx_n (by omega) (by decide), ix_n (by omega), lt_v, p1 (n := 53 + 4 * κ), gx_n (by omega) (by decide), ix_n (by omega), lt_v, p2 (n := 53 + 4 * κ), gx_n (by omega) (by decide), ix_n (by omega), lt_v, p3 (n := 53 + 4 * κ), gx_n (by omega) (by decide), ix_n (by omega), lt_v,
        up_ne (q := 1) (j := 7) (Or.inr (by omega)), up_ne (q := 1) (j := 7) (Or.inr (by omega)), up_ne (q := 1) (j := 7) (Or.inr (by omega)), g7, up_ne (q := 1) (j := 5) (Or.inr (by omega)), up_ne (q := 1) (j := 5) (Or.inr (by omega)), up_ne (q := 1) (j := 5) (Or.inr (by omega)), up_ne (q := 1) (j := 5) (Or.inr (by omega)), q2, lt_v, p1 (n := κ)]
      refine Or.inl ⟨i + 1 + 1, σ, d, _, _, rfl, rfl, G, P, by omega, ?_, ?_⟩
      · exact ((((((fc.tr ((fr1 σ).1.mono pC_q)).tr ((fr2 σ).1.mono pC_q)).up (by unfold qC rp; omega)).up (by unfold qC rp; omega)).up (by unfold qC rp; omega)).up (by unfold qC rp; omega)).up (by unfold qC rp; omega)
      · exact ((((((fr.tr ((fr1 σ).2.mono pR_q)).tr ((fr2 σ).2.mono pR_q)).up (by unfold qR; omega)).up (by unfold qR; omega)).up (by unfold qR; omega)).up (by unfold qR; omega)).up (by unfold qR; omega)
    · rw [if_neg (show ¬ Tk b N pl en (i + 1) = 315 from ct), decide_eq_false ct, show b2 false = 0 from rfl, needs_no z10, bd_s, if_neg (show ¬ up mr2 0 10 1 0 10 = 0 by rw [up_at]; decide)]
      exact Or.inr ⟨i + 1, _, _, rfl, rfl, g1.bad, fc.tr ((fr1 σ).1.mono pC_q), qR_up (fr.tr ((fr1 σ).2.mono pR_q)) (by decide)⟩
  · rw [if_pos (show (-1 : Int32) < 0 by decide)]
    have e1 : fX12_ruleHere_97 (nI (53 + 4 * κ)) (nI w) (nI β) (-1) 0 mr = some (0, up mr 0 10 1) := by
      have hb := h.bad
      have b59 : fX12_isByte 59 (up mr 0 10 1) = some (b2 (decide (Tk b N pl en i = nI 315)), up mr 0 10 1) := byte_any hX hb.1 hb.2.2.1 hb.2.2.2.1 (c := 59) (by decide)
      unfold fX12_ruleHere_97
      rw [needs_no h10, bd_s, b59, bd_s, needs_bad up_at, bd_s, if_neg (show ¬ up mr 0 10 1 0 10 = 0 by rw [up_at]; decide)]
    rw [e1]
    refine Or.inr ⟨i, mc, _, ?_, rfl, h.bad, fc, qR_up fr (by decide)⟩
    rcases w1 with w1 | ⟨w1, w2⟩
    · rw [if_pos (show Tk b N pl en i < 6 from w1)]
    · rw [if_neg (show ¬ Tk b N pl en i < 6 from w1), if_neg (show ¬ Tk b N pl en i ≤ 8 from Int32.not_le.mpr w2)]
theorem rule_b (hX : Txt b N n pl en) (h : Gd b N n pl en i σ d mc mr) (hR : RuP κ σ mc mr) (hκ : κ < 8) : RuleOut b N n pl en i κ mc mr (fX8_readRule 1 mc) (fX12_ruleHere mr) := by
  have n200 := hX.n_le
  have hN := hX.1
  obtain ⟨hi, ⟨a1, a2⟩, hT, hA, h10, h11, h8, h7, h2, hS⟩ := id h
  obtain ⟨r, f1, f2⟩ := res_t hX.2.1 hX.1 (hX.e_ok hi) (by decide) (by decide) (kindH_r hT hX.1 hA (hX.e_ok hi))
  unfold fX8_readRule fX12_ruleHere
  rw [hR.2.1, e_rule, lt_v, lt_v, f1, bd_s, a1, gx_n (by omega) (by decide), ix_n (by omega), (a2 i hi).1]
  rcases f2 with ⟨w, w1, w2, w3, rfl⟩ | ⟨rfl, w1⟩
  · have w3' : Tk b N pl en i = nI w := w3
    have hin := hX.lt hi (by omega) w3'
    obtain ⟨nx, mr2, n1, g1, fr1⟩ := next_b hX h hin
    have s1 := hX.step hin
    obtain ⟨hi2, ⟨z1, z2⟩, zT, zA, z10, z11, z8, z7, -⟩ := id g1
    have hR1 := hR.fr (Nat.le_refl σ) (fr1 σ).1 (fr1 σ).2
    rw [w3', if_neg (nI_pos (by omega)), if_pos (show nI w ≤ 5 from nI_le (b := 5) (by omega) (by decide)), nx, bd_s, z8, lt_v, if_neg (nI_pos (by omega)), hR.2.1, if_neg (show ¬ (8 : Int32) ≤ nI κ from nI_ge (b := 8) hκ (by decide))]
    unfold fX12_ruleHere_38
    have bIf : fX12_isTwo 105 102 mr2 = some (b2 (decide (Tk b N pl en (i + 1) = 9)), mr2) := isIf_t zT hX.1 zA (hX.e_ok hi2)
    rw [needs_ok h10, n1, bd_s, bd_s, z7, lt_v, if_pos z10, bIf, bd_s, z1, gx_n (by omega) (by decide), ix_n (by omega), (z2 (i + 1) hi2).1]
    have fc := (fr1 σ).1.mono pC_q
    have fr := (fr1 σ).2.mono pR_q
    by_cases ct : Tk b N pl en (i + 1) = 9
    · have hin2 := hX.lt (t := 9) hi2 (by omega) ct
      obtain ⟨nx2, mr3, n2, g2, fr2⟩ := next_b hX g1 hin2
      have s2 := hX.step hin2
      rw [if_pos ct, decide_eq_true ct, if_neg b2t, nx2, bd_s, n2, bd_s, lt_v]
      have g3 := g2.open_ 0
      have g3' : Gd b N n pl en (i + 1 + 1) σ 0 (up (up mc (rp 1 0) 12 (nI (i + 1))) (rp 1 0) 12 (nI (i + 1 + 1))) (up mr3 0 11 0) := g3
      have hR3 : RuP κ σ (up (up mc (rp 1 0) 12 (nI (i + 1))) (rp 1 0) 12 (nI (i + 1 + 1))) (up mr3 0 11 0) := (hR1.fr (Nat.le_refl σ) (fr2 σ).1 (fr2 σ).2).fr (Nat.le_refl σ) Ce.rf (pR_up Ce.rf (by decide))
      have fc3 := fc.tr ((fr2 σ).1.mono pC_q)
      have fr3 : Ce qR mr (up mr3 0 11 0) := qR_up (fr.tr ((fr2 σ).2.mono pR_q)) (by decide)
      have o : Out b N n pl en (i + 1 + 1) (pl (i + 1 + 1)) σ 0 _ _ (rX8_readAny 6 1 0 _) (rX12_condHere 9 _) := cond_b hX 3 0 6 9 (by decide) (by decide) (by decide) _ _ _ _ g3'
      rcases o with ⟨j, τ, mc4, mr4, e1, e2, g4, A1, A2, A3, A4, A5, A6⟩ | ⟨j, mc4, mr4, e1, e2, A1, A2, g4⟩
      · rw [e1, bd_s, if_neg (show ¬ (1 : Int32) = 0 by decide), e2, bd_s]
        exact tail58_b hX g4 (hR3.fr A4 A1 A2) hκ w2 A4 (by have := hX.le g4.1; omega) (by omega) (fc3.tr (A1.mono pC_q)) (fr3.tr (A2.mono pR_q))
      · rw [e1, bd_s, if_pos rfl, e2, bd_s, tail80_bad hX g4]
        exact Or.inr ⟨j, mc4, mr4, rfl, rfl, g4, fc3.tr (A1.mono pC_q), fr3.tr (A2.mono pR_q)⟩
    · rw [if_neg ct, decide_eq_false ct, if_pos b2f]
      have o := tail58_b (I := i) hX g1 hR1 hκ w2 (Nat.le_refl σ) (by rw [Nat.sub_self, cmpN]; omega) (by omega) fc fr
      exact o
  · rw [if_pos (show (-1 : Int32) < 0 by decide), rule38_no hX h]
    refine Or.inr ⟨i, mc, _, ?_, rfl, h.bad, Ce.rf, qR_up Ce.rf (by decide)⟩
    rcases w1 with w1 | ⟨w1, w2⟩
    · rw [if_pos (show Tk b N pl en i < 0 from w1)]
    · rw [if_neg (show ¬ Tk b N pl en i < 0 from w1), if_neg (show ¬ Tk b N pl en i ≤ 5 from Int32.not_le.mpr w2)]
/-- eight there are: the next is too many -/
theorem rule9_b (hX : Txt b N n pl en) (h : Gd b N n pl en i σ d mc mr) (hR : mr 1 5 = nI 8) : fX12_ruleHere mr = some (0, up mr 0 10 1) := by
  obtain ⟨hi, ⟨a1, a2⟩, hT, hA, -⟩ := id h
  obtain ⟨r, f1, -⟩ := kindH_r hT hX.1 hA (hX.e_ok hi)
  unfold fX12_ruleHere
  rw [lt_v, f1, bd_s, rule38_no hX h, hR, if_pos (show (8 : Int32) ≤ nI 8 by decide)]
  split <;> rfl
end RV
