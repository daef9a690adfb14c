/-! all the rules read, and kept if nothing is wrong -/
section RS
variable {b : Nat → Nat} {N n : Nat} {pl en : Nat → Nat}
def LoopOut (b : Nat → Nat) (N n : Nat) (pl en : Nat → Nat) (mc mr : Mm) (fc fr : Option (Int32 × Mm)) : Prop :=
  (∃ κ σ d mc' mr', fc = some (-3, mc') ∧ fr = fX12_rules_77 mr' ∧ Gd b N n pl en n σ d mc' mr' ∧ RuP κ σ mc' mr' ∧ Ce qC mc mc' ∧ Ce qR mr mr') ∨
  (∃ i mc' mr', fc = some (nI (pl i), mc') ∧ fr = fX12_rules_77 mr' ∧ Bad b N n pl en i mc' mr' ∧ Ce qC mc mc' ∧ Ce qR mr mr')
theorem kd_0 {s : Nat} : kdN b N s = 0 ↔ N ≤ s := by
  unfold kdN
  by_cases c : N ≤ s
  · rw [if_pos c]; exact ⟨fun _ => c, fun _ => rfl⟩
  · rw [if_neg c]
    refine ⟨fun h => ?_, fun h => absurd h c⟩
    repeat' split at h
    all_goals omega
theorem loop_b {mc0 mr0 : Mm} (hX : Txt b N n pl en) : ∀ (t i σ d κ c q q' : Nat) (mc mr : Mm), n - i ≤ t → t < q → t + 1 < q' → Gd b N n pl en i σ d mc mr → RuP κ σ mc mr → c ≤ i → Ce qC mc0 mc → Ce qR mr0 mr →
    LoopOut b N n pl en mc0 mr0 (fX8_read_22 1 q (nI c) mc) (fX12_rules_56 q' mr) := by
  have n200 := hX.n_le
  have hN := hX.1
  have fin : ∀ (σ d κ c q q' : Nat) (mc mr : Mm), Gd b N n pl en n σ d mc mr → RuP κ σ mc mr → c ≤ n → Ce qC mc0 mc → Ce qR mr0 mr → LoopOut b N n pl en mc0 mr0 (fX8_read_22 1 (q + 1) (nI c) mc) (fX12_rules_56 (q' + 1) mr) := fun σ d κ c q q' mc mr h hR hc fc fr => by
    obtain ⟨hi, ⟨a1, a2⟩, hT, hA, h10, -⟩ := id h
    have hk : kdN b N (pl n) = 0 := kd_0.mpr (by rw [hX.2.2.2.2.2.1]; exact Nat.le_refl _)
    rw [fX8_read_22, fX12_rules_56, if_neg (show ¬ (200 : Int32) < nI c from nI_nlt (a := 200) (by omega) (by decide)), a1, gx_n (by omega) (by decide), ix_n (by omega), (a2 n hi).1, if_pos ((hX.tk_end (Nat.le_refl n)).mpr rfl), if_pos h10, hA.2.2.1, hk, if_pos (show nI 0 = 0 from rfl)]
    exact Or.inl ⟨κ, σ, d, mc, mr, rfl, rfl, h, hR, fc, fr⟩
  have bad : ∀ (i q' : Nat) (mc mr : Mm), Bad b N n pl en i mc mr → Ce qC mc0 mc → Ce qR mr0 mr → LoopOut b N n pl en mc0 mr0 (fX8_read_58 1 mc) (fX12_rules_56 (q' + 1) mr) := fun i q' mc mr h fc fr => by
    obtain ⟨hi, ⟨a1, a2⟩, hT, hA, h10⟩ := id h
    unfold fX8_read_58
    rw [fX12_rules_56, if_neg (show ¬ mr 0 10 = 0 by rw [h10]; decide), a1, gx_n (by omega) (by decide), ix_n (by omega), (a2 i hi).2]
    exact Or.inr ⟨i, mc, mr, rfl, rfl, h, fc, fr⟩
  intro t
  induction t with
  | zero =>
    intro i σ d κ c q q' mc mr ht hq hq' h hR hc fc fr
    obtain ⟨q, rfl⟩ : ∃ z, q = z + 1 := ⟨q - 1, by omega⟩
    obtain ⟨q', rfl⟩ : ∃ z, q' = z + 1 := ⟨q' - 1, by omega⟩
    have e : i = n := by have := h.1; omega
    subst e
    exact fin σ d κ c q q' mc mr h hR hc fc fr
  | succ t ih =>
    intro i σ d κ c q q' mc mr ht hq hq' h hR hc fc fr
    obtain ⟨q, rfl⟩ : ∃ z, q = z + 1 := ⟨q - 1, by omega⟩
    obtain ⟨q', rfl⟩ : ∃ z, q' = z + 2 := ⟨q' - 2, by omega⟩
    by_cases e : i = n
    · subst e
      exact fin σ d κ c q (q' + 1) mc mr h hR hc fc fr
    · obtain ⟨hi, ⟨a1, a2⟩, hT, hA, h10, -⟩ := id h
      have hk : ¬ kdN b N (pl i) = 0 := fun z => by
        have h1 := kd_0.mp z
        have h2 := (hX.2.2.2.1 i (by omega)).1
        omega
      have hk3 : kdN b N (pl i) ≤ 3 := by unfold kdN; repeat' split
                                          all_goals omega
      have hk' : ¬ nI (kdN b N (pl i)) = 0 := fun z => hk ((nI_eq (a := kdN b N (pl i)) (b := 0) (by omega) (by decide)).mp z)
      rw [fX8_read_22, fX12_rules_56, if_neg (show ¬ (200 : Int32) < nI c from nI_nlt (a := 200) (by omega) (by decide)), a1, gx_n (by omega) (by decide), ix_n (by omega), (a2 i hi).1, if_neg (fun z => e ((hX.tk_end hi).mp z)), if_pos h10, hA.2.2.1, if_neg hk', hR.1]
      by_cases ck : κ = 8
      · subst ck
        rw [if_pos (show (8 : Int32) ≤ nI 8 by decide), rule9_b hX h hR.2.1, bd_s]
        exact bad i q' mc _ h.bad fc (qR_up fr (by decide))
      · have hκ : κ < 8 := by have := hR.2.2.1; omega
        rw [if_neg (show ¬ (8 : Int32) ≤ nI κ from nI_ge (b := 8) hκ (by decide))]
        rcases rule_b hX h hR hκ with ⟨j, τ, d', mc2, mr2, e1, e2, g, P, hj, fc2, fr2⟩ | ⟨j, mc2, mr2, e1, e2, g, fc2, fr2⟩
        · rw [e1, bd_s, if_neg (show ¬ (1 : Int32) = 0 by decide), e2, bd_s, lt_v, p1]
          exact ih j τ d' (κ + 1) (c + 1) q (q' + 1) mc2 mr2 (by omega) (by omega) (by omega) g P (by omega) (fc.tr fc2) (fr.tr fr2)
        · rw [e1, bd_s, if_pos rfl, e2, bd_s]
          exact bad j q' mc2 mr2 g (fc.tr fc2) (fr.tr fr2)
theorem any_n (x : Int32) : ∃ d : Nat, x = nI d := ⟨x.toBitVec.toNat, by
  apply Int32.toBitVec_inj.mp
  show _ = BitVec.ofNat 32 _
  rw [BitVec.ofNat_toNat, BitVec.setWidth_eq]⟩
theorem back84_r : ∀ (d x q : Nat) (m : Mm), x + d = 553 → d < q → (∀ k, k < x → m 1 k = m 5 k) → m 0 10 = 1 → ∃ f, (∀ k, k < 553 → f k = m 5 k) ∧ fX12_rules_84 q (nI x) m = some (-100 - m 0 7, upA m 1 f) := by
  intro d
  induction d with
  | zero =>
    intro x q m hd hq hk h10
    obtain ⟨q, rfl⟩ : ∃ z, q = z + 1 := ⟨q - 1, by omega⟩
    refine ⟨m 1, fun k hk' => hk k (by omega), ?_⟩
    rw [fX12_rules_84, if_pos (show (553 : Int32) ≤ nI x from nI_le (a := 553) (by omega) (by omega)), upA_self]
    unfold fX12_rules_116
    rw [if_neg (show ¬ m 0 10 = 0 by rw [h10]; decide)]
  | succ d ih =>
    intro x q m hd hq hk h10
    obtain ⟨q, rfl⟩ : ∃ z, q = z + 1 := ⟨q - 1, by omega⟩
    rw [fX12_rules_84, if_neg (show ¬ (553 : Int32) ≤ nI x from nI_ge (b := 553) (by omega) (by decide)), if_neg (show ¬ m 0 10 = 0 by rw [h10]; decide), gx_n (by omega) (by decide), ix_n (by omega), lt_v, lt_v, p1]
    obtain ⟨f, f1, f2⟩ := ih (x + 1) q (up m 1 x (m 5 x)) (by omega) (by omega) (fun k hk' => by
      rw [up_row (q := 5) (by decide), up_app, if_pos rfl]
      split
      · next e => rw [e]
      · exact hk k (by omega)) ((congrFun (up_row (by decide)) 10).trans h10)
    refine ⟨f, fun k hk' => by rw [f1 k hk', up_row (by decide)], ?_⟩
    rw [f2, up_row (q := 0) (by decide)]
    show some (_, upA (upA m 1 _) 1 f) = _
    rw [upA_upA]
/-- the two belong together behind the reading -/
theorem RR.read {mc mr mc' mr' : Mm} (hR : RR mc mr) (hrow : ∀ k, k < 103 → k ≠ 5 → k ≠ 7 → (k < 53 ∨ 85 ≤ k) → mr' 1 k = mr 1 k) (hI : RulesIs 0 mc' (mr' 1)) (hO : RulesOk (mr' 1))
    (c : ∀ q, q ≠ 0 → (q < 14 ∨ 33 < q) → mc' q = mc q) (c0 : ∀ k, k ≠ 1 → mc' 0 k = mc 0 k) (c1 : mc' 0 1 = 0) (r : ∀ q, q ≠ 0 → q ≠ 1 → q ≠ 5 → mr' q = mr q) (r0 : ∀ k, (k < 5 ∨ 11 < k) → mr' 0 k = mr 0 k) (r5 : mr' 0 5 = 0) : RR mc' mr' := by
  obtain ⟨⟨g1, g2, g3⟩, ⟨⟨n, o1⟩, o2, o3⟩, k, -, w, s, sh, y⟩ := hR
  have gg : GymIs 0 mc' (mr 1) := g1.of_eq (fun k hk _ _ => c _ (by unfold gp; omega) (by unfold gp; omega))
  refine ⟨⟨gg.row_eq2 (fun k h1 h2 => hrow k (by omega) (by omega) (by omega) (by omega)), hI, ?_⟩, ⟨⟨n, o1.row_eq2 (fun k h1 h2 => hrow k (by omega) (by omega) (by omega) (by omega))⟩, hO, by rw [hrow 6 (by decide) (by decide) (by decide) (by decide)]; exact o3⟩,
    k.of (c0 _ (by decide)) (r0 _ (by decide)) (r _ (by decide) (by decide) (by decide)) (fun q hq => c q (by omega) (by omega)), ⟨by rw [c1, r5], by rw [r5]; exact ⟨0, Nat.le_refl _, by decide, rfl⟩, fun j hj => ?_⟩,
    w.of (c0 _ (by decide)) (r0 _ (by decide)) (fun q h1 h2 => c q (by omega) (by omega)) (r _ (by decide) (by decide) (by decide)),
    s.of (fun q h1 h2 => c q (by omega) (by omega)) (r _ (by decide) (by decide) (by decide)) (r _ (by decide) (by decide) (by decide)) (r _ (by decide) (by decide) (by decide)),
    sh.of (fun q h1 h2 => c q (by omega) (by omega)) (r _ (by decide) (by decide) (by decide)) (r _ (by decide) (by decide) (by decide)) (r _ (by decide) (by decide) (by decide)),
    y.of (by rw [c 52 (by decide) (by decide)]) (r0 _ (by decide)) (c _ (by decide) (by decide)) (r _ (by decide) (by decide) (by decide))⟩
  · obtain ⟨a, z⟩ := g3
    refine ⟨by rw [c _ (by unfold mp; omega) (by unfold mp; omega), hrow 6 (by decide) (by decide) (by decide) (by decide)]; exact a, fun q hq => ?_⟩
    rw [c _ (by unfold mp; omega) (by unfold mp; omega), c _ (by unfold mp; omega) (by unfold mp; omega), c _ (by unfold mp; omega) (by unfold mp; omega), hrow _ (by omega) (by omega) (by omega) (by omega), hrow _ (by omega) (by omega) (by omega) (by omega), hrow _ (by omega) (by omega) (by omega) (by omega)]
    exact z q hq
  · rw [r5] at hj
    exact absurd hj (by show ¬ j < ix (0 : Int32); rw [show ix (0 : Int32) = 0 by decide]; omega)
end RS
theorem op_rules : Op fX11_rules fX12_rules := by
  intro mc mr hR
  obtain ⟨t1, ⟨N, -, N200, hN⟩, t3⟩ := hR.2.2.2.1
  rw [hN, ix_n (by omega)] at t3
  -- the bytes
  have ex : ∀ k, ∃ x : Nat, k < N → x < 256 ∧ mr 4 k = nI x ∧ mc 1 k = sb x := fun k => by
    by_cases c : k < N
    · obtain ⟨x, x1, x2, x3⟩ := t3 k c
      exact ⟨x, fun _ => ⟨x1, x2, x3⟩⟩
    · exact ⟨0, fun z => absurd z c⟩
  obtain ⟨b, hb⟩ := Classical.axiomOfChoice ex
  have hTc : TapeC mc b N := fun k hk => ⟨(hb k hk).2.2, (hb k hk).1⟩
  obtain ⟨n, pl, en, mc1, k1, hC, k2, k3⟩ := cut_c (i := 1) (N := N) N200 (by decide) N 0 FL 0 (fun _ => 0) (fun _ => 0) mc (by omega) (by unfold FL; omega) (by omega) hTc (fun j hj => by omega) (by unfold pe; simp) (fun z => by unfold pe at z; simp at z) (fun q h1 h2 => by omega)
  have hX : Txt b N n pl en := ⟨N200, fun k hk => (hb k hk).1, hC⟩
  have n200 := hX.n_le
  let mc2 := up (up (up mc1 (rp 1 0) 12 0) (rp 1 0) 0 0) (rp 1 0) 8 0
  have hcls : fX11_rules mc = bd (fX8_read_22 1 FL 0 mc2) fun r_1 m_2 => lt (up m_2 0 1 0) fun m_4 => (if r_1 < 0 then bd (fX8_copy 0 1 m_4) fun r_7 m_8 => some ((m_8 (rp 0 0) 0), m_8) else some ((((-100) : Int32) - r_1), m_4)) := by
    have k1' : fX8_cut 1 (nI N) mc = some (0, mc1) := k1
    unfold fX11_rules fX8_read
    rw [t1, hN, k1', bd_s, lt_v, lt_v, lt_v]
  -- the reference begins
  obtain ⟨f, hf, hfr⟩ := keepR_loop (a := 1) (b := 5) (by decide) (F := fX12_rules_2) (E := fun m => lt (up m 1 5 0) fun m_2 => lt (up m_2 1 7 0) fun m_4 => lt (up m_4 0 8 0) fun m_6 => lt (up m_6 0 10 0) fun m_8 => bd (fX12_nextToken m_8) fun r_10 m_11 => (fX12_rules_56 FL m_11)) (fun n x m => rfl) 553 0 FL mr (by omega) (by decide) (fun k hk => by omega)
  let mr1 := up (up (up (up (upA mr 5 f) 1 5 0) 1 7 0) 0 8 0) 0 10 0
  have href : fX12_rules mr = bd (fX12_nextToken mr1) fun r_10 m_11 => (fX12_rules_56 FL m_11) := hfr
  have m10 : ∀ k, k ≠ 8 → k ≠ 10 → mr1 0 k = mr 0 k := fun k h1 h2 => by
    show up (up (up (up (upA mr 5 f) 1 5 0) 1 7 0) 0 8 0) 0 10 0 0 k = _
    rw [up_ne (Or.inr h2), up_ne (Or.inr h1), up_row (by decide), up_row (by decide), upA_ne (by decide)]
  have m1q : ∀ q, q ≠ 0 → q ≠ 1 → q ≠ 5 → mr1 q = mr q := fun q h1 h2 h3 => by
    show up (up (up (up (upA mr 5 f) 1 5 0) 1 7 0) 0 8 0) 0 10 0 q = _
    rw [up_row h1, up_row h1, up_row h2, up_row h2, upA_ne h3]
  have m15 : mr1 5 = f := by
    show up (up (up (up (upA mr 5 f) 1 5 0) 1 7 0) 0 8 0) 0 10 0 5 = _
    rw [up_row (by decide), up_row (by decide), up_row (by decide), up_row (by decide), upA_same]
  have m11 : ∀ k, k ≠ 5 → k ≠ 7 → mr1 1 k = mr 1 k := fun k h1 h2 => by
    show up (up (up (up (upA mr 5 f) 1 5 0) 1 7 0) 0 8 0) 0 10 0 1 k = _
    rw [up_row (by decide), up_row (by decide), up_ne (Or.inr h2), up_ne (Or.inr h1), upA_ne (by decide)]
  have m115 : mr1 1 5 = 0 := by
    show up (up (up (up (upA mr 5 f) 1 5 0) 1 7 0) 0 8 0) 0 10 0 1 5 = _
    rw [up_row (by decide), up_row (by decide), up_ne (Or.inr (by decide)), up_at]
  have m117 : mr1 1 7 = 0 := by
    show up (up (up (up (upA mr 5 f) 1 5 0) 1 7 0) 0 8 0) 0 10 0 1 7 = _
    rw [up_row (by decide), up_row (by decide), up_at]
  have hT1 : RT mr1 b N := ⟨(m10 5 (by decide) (by decide)).trans hN, fun k hk => by rw [m1q 4 (by decide) (by decide) (by decide)]; exact ⟨(hb k hk).2.1, (hb k hk).1⟩⟩
  have h18 : mr1 0 8 = nI 0 := by
    show up (up (up (up (upA mr 5 f) 1 5 0) 1 7 0) 0 8 0) 0 10 0 0 8 = _
    rw [up_ne (Or.inr (by decide)), up_at]; rfl
  have hS0 : Sp b N 0 (pl 0) := hC.2.2.1 0 (Nat.zero_le _)
  obtain ⟨mr2, e1, e2, e3⟩ := nextToken_r N200 hS0 (hX.e_ok (Nat.zero_le _)) hT1 h18
  obtain ⟨d, hd⟩ := any_n (mr2 0 11)
  have h210 : mr2 0 10 = 0 := (e2.2 10 (by omega)).trans up_at
  have row2 : mr2 1 = mr1 1 := e2.1 1 (by decide)
  have g0 : Gd b N n pl en 0 0 d mc2 mr2 := by
    refine ⟨Nat.zero_le _, ⟨?_, fun k hk => ?_⟩, hT1.fp e2, e3, h210, hd, up_at, by rw [row2]; exact m117, by omega, fun k hk => by omega⟩
    · show up (up (up mc1 (rp 1 0) 12 0) (rp 1 0) 0 0) (rp 1 0) 8 0 (rp 1 0) 12 = _
      rw [up_ne (Or.inr (by decide)), up_ne (Or.inr (by decide)), up_at]; rfl
    · show up (up (up mc1 (rp 1 0) 12 0) (rp 1 0) 0 0) (rp 1 0) 8 0 (rp 1 8) k = _ ∧ up (up (up mc1 (rp 1 0) 12 0) (rp 1 0) 0 0) (rp 1 0) 8 0 (rp 1 9) k = _
      rw [up_row (rp_ne (by decide)), up_row (rp_ne (by decide)), up_row (rp_ne (by decide)), up_row (rp_ne (by decide)), up_row (rp_ne (by decide)), up_row (rp_ne (by decide))]
      exact k2 k hk
  have P0 : RuP 0 0 mc2 mr2 := by
    refine ⟨?_, by rw [row2]; exact m115, by omega, fun r hr => by omega⟩
    show up (up (up mc1 (rp 1 0) 12 0) (rp 1 0) 0 0) (rp 1 0) 8 0 (rp 1 0) 0 = _
    rw [up_ne (Or.inr (by decide)), up_at]; rfl
  have c2 : ∀ q, (q < 24 ∨ 33 < q) → mc2 q = mc q := fun q hq => by
    show up (up (up mc1 (rp 1 0) 12 0) (rp 1 0) 0 0) (rp 1 0) 8 0 q = _
    rw [up_row (by unfold rp; omega), up_row (by unfold rp; omega), up_row (by unfold rp; omega)]
    exact k3 q (by unfold rp; omega) (by unfold rp; omega)
  rw [hcls, href, e1, bd_s]
  have o := loop_b (mc0 := mc2) (mr0 := mr2) hX n 0 0 d 0 0 FL FL mc2 mr2 (by omega) (by unfold FL; omega) (by unfold FL; omega) g0 P0 (Nat.le_refl _) Ce.rf Ce.rf
  rcases o with ⟨κ, σ, d', mc3, mr3, o1, o2, G, P, fc, fr⟩ | ⟨i, mc3, mr3, o1, o2, G, fc, fr⟩
  · -- nothing is wrong
    have o1' : fX8_read_22 1 FL 0 mc2 = some (-3, mc3) := o1
    obtain ⟨P1, P2, P3, P4⟩ := P
    have G8 := G.2.2.2.2.2.2.1
    have G7 := G.2.2.2.2.2.2.2.1
    have G2 := G.2.2.2.2.2.2.2.2.1
    have GS := G.2.2.2.2.2.2.2.2.2
    have hσ : σ ≤ 100 := by have := hX.le G.1; omega
    rw [o1', bd_s, lt_v, if_pos (show (-3 : Int32) < 0 by decide), o2]
    have hI1 : RulesIs 1 (up mc3 0 1 0) (mr3 1) := by
      have hq : ∀ k, rp 1 k ≠ 0 := fun k => by unfold rp; omega
      refine ⟨by rw [up_row (hq 0), P1, P2], by rw [up_row (hq 0), G8, G7], fun r hr => ?_, fun k hk => ?_⟩
      · rw [P2, ix_n (by omega)] at hr
        rw [up_row (hq 1), up_row (hq 2), up_row (hq 3), up_row (hq 4)]
        exact (P4 r hr).1
      · rw [G7, ix_n (by omega)] at hk
        rw [up_row (hq 5), up_row (hq 6), up_row (hq 7)]
        exact GS k hk
    have hO : RulesOk (mr3 1) := by
      refine ⟨⟨κ, Nat.zero_le _, P3, P2⟩, ⟨σ, Nat.zero_le _, by omega, G7⟩, fun r hr => ?_⟩
      rw [P2, ix_n (by omega)] at hr
      obtain ⟨-, y1, y2, x, y, xy, yσ, hx, hy, hc⟩ := P4 r hr
      exact ⟨y1, y2, x, y, xy, by rw [G7, ix_n (by omega)]; exact yσ, hx, hy, hc⟩
    obtain ⟨mc4, q1, q2, q3⟩ := rulesCopy_c (i := 0) (j := 1) (by decide) (by decide) (by decide) hI1 hO
    rw [q1, bd_s]
    have e77 : fX12_rules_77 mr3 = some (nI κ, up mr3 0 5 0) := by
      unfold fX12_rules_77
      have z10 : up mr3 0 5 0 0 10 = 0 := (up_ne (Or.inr (by decide))).trans G.2.2.2.2.1
      rw [lt_v, show FL = 4095 + 1 from rfl, fX12_rules_84, if_neg (show ¬ (553 : Int32) ≤ 0 by decide), if_pos z10]
      unfold fX12_rules_116
      rw [if_pos z10, up_row (show (1 : Nat) ≠ 0 by decide), P2]
    rw [e77, q2.1, P2]
    have r1 : (up mr3 0 5 0) 1 = mr3 1 := up_row (by decide)
    refine ⟨nI κ, mc4, up mr3 0 5 0, rfl, rfl, hR.read (fun k h1 h2 h3 h4 => ?_) (by rw [r1]; exact q2) (by rw [r1]; exact hO) (fun q h1 h2 => ?_) (fun k hk => ?_) ?_ (fun q h1 h2 h3 => ?_) (fun k hk => ?_) up_at⟩
    · rw [r1, fr 1 k (by unfold qR; omega), row2, m11 k h2 h3]
    · rw [q3 q (by omega), up_row h1, show mc3 q = mc2 q from funext fun k => fc q k (by unfold qC; omega), c2 q (by omega)]
    · rw [q3 0 (by omega), up_ne (Or.inr hk), fc 0 k (by unfold qC; omega), c2 0 (by omega)]
    · rw [q3 0 (by omega), up_at]
    · rw [up_row h1, show mr3 q = mr2 q from funext fun k => fr q k (by unfold qR; omega), e2.1 q h1, m1q q h1 h2 h3]
    · rw [up_ne (Or.inr (by omega)), fr 0 k (by unfold qR; omega), e2.2 k (by omega), m10 k (by omega) (by omega)]
  · -- a fault
    have o1' : fX8_read_22 1 FL 0 mc2 = some (nI (pl i), mc3) := o1
    have hle := hX.le G.1
    rw [o1', bd_s, lt_v, if_neg (nI_pos (by omega)), o2]
    have G7 := G.2.2.2.1.1
    have z10 : up mr3 0 5 0 0 10 = 1 := (up_ne (Or.inr (by decide))).trans G.2.2.2.2
    have z5 : (up mr3 0 5 0) 5 = f := by
      rw [up_row (by decide), show mr3 5 = mr2 5 from funext fun k => fr 5 k (by unfold qR; omega), e2.1 5 (by decide), m15]
    obtain ⟨g, g1, g2⟩ := back84_r 553 0 FL (up mr3 0 5 0) (by omega) (by unfold FL; omega) (fun k hk => by omega) z10
    have e77 : fX12_rules_77 mr3 = some (-100 - nI (pl i), upA (up mr3 0 5 0) 1 g) := by
      have z7 : up mr3 0 5 0 0 7 = nI (pl i) := (up_ne (Or.inr (by decide))).trans G7
      rw [z7] at g2
      exact g2
    rw [e77]
    rw [z5] at g1
    have gr : ∀ k, k < 553 → g k = mr 1 k := fun k hk => (g1 k hk).trans (hf k hk)
    have r1 : (upA (up mr3 0 5 0) 1 g) 1 = g := upA_same
    have cA : ∀ q, (q ≠ 0 ∧ (q < 24 ∨ 33 < q)) → (up mc3 0 1 0) q = mc q := fun q hq => by
      rw [up_row hq.1, show mc3 q = mc2 q from funext fun k => fc q k (by unfold qC; omega), c2 q (by omega)]
    refine ⟨-100 - nI (pl i), up mc3 0 1 0, upA (up mr3 0 5 0) 1 g, rfl, rfl, hR.read (fun k h1 _ _ _ => ?_) ?_ ?_ (fun q h1 h2 => cA q (by omega)) (fun k hk => ?_) up_at (fun q h1 h2 h3 => ?_) (fun k hk => ?_) ?_⟩
    · rw [r1]; exact gr k (by omega)
    · rw [r1]
      exact (hR.1.2.1.of_eq (m' := up mc3 0 1 0) (fun k hk => cA _ (by unfold rp; omega))).row_eq3 hR.2.1.2.1 gr
    · rw [r1]; exact hR.2.1.2.1.row_eq3 gr
    · rw [up_ne (Or.inr hk), fc 0 k (by unfold qC; omega), c2 0 (by omega)]
    · rw [upA_ne h2, up_row h1, show mr3 q = mr2 q from funext fun k => fr q k (by unfold qR; omega), e2.1 q h1, m1q q h1 h2 h3]
    · rw [upA_ne (show (0 : Nat) ≠ 1 by decide), up_ne (Or.inr (by omega)), fr 0 k (by unfold qR; omega), e2.2 k (by omega), m10 k (by omega) (by omega)]
    · rw [upA_ne (show (0 : Nat) ≠ 1 by decide), up_at]
