/-- what a subtree of the game does, in both -/
def FG (δ : Nat) (m m' : Mm) : Prop := (∀ q, (q < 64 ∨ q = 65 ∨ q = 66 ∨ q = 67 ∨ (68 ≤ q ∧ q < 68 + 13 * (4 + δ))) → m' q = m q) ∧ (∀ k, k ≠ 11 → m' 64 k = m 64 k) ∧ (0 < δ → m' 64 11 = m 64 11)
def FGr (δ : Nat) (m m' : Mm) : Prop := (∀ q, q ≠ 0 → q ≠ 3 → m' q = m q) ∧ (∀ k, k ≠ 13 → k ≠ 22 → m' 0 k = m 0 k) ∧ (∀ k, k < 47 * δ → m' 3 k = m 3 k)
theorem FG.tr {δ : Nat} {a b c : Mm} (h : FG δ a b) (g : FG δ b c) : FG δ a c := ⟨fun q hq => (g.1 q hq).trans (h.1 q hq), fun k hk => (g.2.1 k hk).trans (h.2.1 k hk), fun hk => (g.2.2 hk).trans (h.2.2 hk)⟩
theorem FGr.tr {δ : Nat} {a b c : Mm} (h : FGr δ a b) (g : FGr δ b c) : FGr δ a c := ⟨fun q q0 q3 => (g.1 q q0 q3).trans (h.1 q q0 q3), fun k hk h2 => (g.2.1 k hk h2).trans (h.2.1 k hk h2), fun k hk => (g.2.2 k hk).trans (h.2.2 k hk)⟩
def GameOk (L n N t e δ : Nat) (f fr : Nat) : Prop :=
  ∀ (mc mr : Mm), Wk L δ n t e mc mr → mc 64 2 = nI L →
    ∃ r mc' mr', rX7_playOn f (nI δ) mc = some (r, mc') ∧ rX12_valueFrom fr (nI δ) (nI N) mr = some (r, mr') ∧ Wk L δ n t e mc' mr' ∧ mr' 1 = mr 1 ∧ FG δ mc mc' ∧ FGr δ mr mr' ∧ (δ = 0 → 0 < L → mc' 64 11 = mr' 0 22)
theorem game_leaf {L n N t e δ f fr : Nat} (hδ : δ = L) (hL : L ≤ 4) (hN : N ≤ 4) (hor : L = N ∨ t + L = e) (he : e ≤ 16) : GameOk L n N t e δ (f + 1) (fr + 1) := by
  intro mc mr hW h2
  subst hδ
  refine ⟨0, mc, mr, ?_, ?_, hW, rfl, ⟨fun _ _ => rfl, fun _ _ => rfl, fun _ => rfl⟩, ⟨fun _ _ _ => rfl, fun _ _ _ => rfl, fun _ _ => rfl⟩, fun h0 h1 => by omega⟩
  · show fX7_playOn (rX7_playOn f) (nI δ) mc = _
    unfold fX7_playOn
    rw [h2, if_neg (nI_nlt (Nat.le_refl δ) (by omega))]
  · show fX12_valueFrom (rX12_valueFrom fr) (nI δ) (nI N) mr = _
    unfold fX12_valueFrom
    by_cases c : δ = N
    · subst c; rw [if_pos rfl]
    · rw [if_neg (fun q => c ((nI_eq (by omega) (by omega)).mp q)), isOver_r, bd_s, hW.2.2.2.2.2.1, hW.2.2.2.2.2.2, decide_eq_false (nI_nlt (by omega) (by omega)), if_neg (show ¬ b2 (!false) = 0 by decide)]
theorem game_loop {L n N t e δ f fr : Nat} (hL : L ≤ 4) (hδ : δ < L) (htL : t + L ≤ e) (he : e ≤ 16) (ih : GameOk L n N t e (δ + 1) f fr) :
    ∀ (d a q q' : Nat) (mc mr : Mm) (best act : Int32), a + d = n + 1 → d < q → d < q' → Wk L δ n t e mc mr → mc 64 2 = nI L → (∀ k, k < 47 → mr 3 (47 * δ + k) = mr 1 k) → ((a = 0 ∧ act = -1) ∨ (0 < a ∧ ¬ act < 0 ∧ (δ = 0 → mc 64 11 = act))) →
    ∃ r mc' mr', fX7_playOn_37 (rX7_playOn f) q (nI δ) (if nI δ - nI δ / 2 * 2 = 0 then 1 else 0) (3 + (δ + 1)) best (nI a) mc = some (r, mc') ∧ fX12_valueFrom_27 (rX12_valueFrom fr) q' (nI δ) (nI N) best act (nI a) mr = some (r, mr') ∧ Wk L δ n t e mc' mr' ∧ mr' 1 = mr 1 ∧ FG δ mc mc' ∧ FGr δ mr mr' ∧ (δ = 0 → mc' 64 11 = mr' 0 22) := by
  intro d
  induction d with
  | zero =>
    intro a q q' mc mr best act hd hq hq' hW h2 h3 hA
    obtain ⟨q, rfl⟩ : ∃ z, q = z + 1 := ⟨q - 1, by omega⟩
    obtain ⟨q', rfl⟩ : ∃ z, q' = z + 1 := ⟨q' - 1, by omega⟩
    have hW0 := hW
    obtain ⟨w1, w2, w3, w4, w5, w6, w7⟩ := hW
    have h6 := w2.2.1
    obtain ⟨s', g', st', -⟩ := w5 (δ + 1) (by omega) (by omega)
    have hlt : nI n < nI a := nI_lt (by omega) (by omega)
    rw [fX7_playOn_37, fX12_valueFrom_27, g'.1.1, st'.1, w2.1, if_pos hlt, if_pos hlt, lt_v]
    have e1 : up mr 0 22 act 1 = mr 1 := up_row (by decide)
    refine ⟨best, mc, _, rfl, rfl, ?_, e1, ⟨fun _ _ => rfl, fun _ _ => rfl, fun _ => rfl⟩, ⟨fun q q0 _ => up_row q0, fun k _ k22 => up_ne (Or.inr k22), fun k hk => by rw [up_row (by decide)]⟩, fun h0 => ?_⟩
    · unfold Wk; rw [e1]; exact hW0
    · rw [up_at]
      rcases hA with ⟨a0, -⟩ | ⟨-, -, h⟩
      · omega
      · exact h h0
  | succ d ihd =>
    intro a q q' mc mr best act hd hq hq' hW h2 h3 hA
    obtain ⟨q, rfl⟩ : ∃ z, q = z + 1 := ⟨q - 1, by omega⟩
    obtain ⟨q', rfl⟩ : ∃ z, q' = z + 1 := ⟨q' - 1, by omega⟩
    obtain ⟨w1, w2, w3, w4, w5, w6, w7⟩ := hW
    have h6 := w2.2.1
    obtain ⟨s', g', st', c4⟩ := w5 (δ + 1) (by omega) (by omega)
    have hnl : ¬ nI n < nI a := nI_nlt (by omega) (by omega)
    have han : a ≤ n := by omega
    have over : mr 1 1 < mr 1 2 := by rw [w6, w7]; exact nI_lt (by omega) (by omega)
    obtain ⟨m1, q1, g1, f1⟩ := follow_c (i := 3 + (δ + 1)) (j := 3 + δ) (by omega) w1 g' st'
    rw [c4, upd_self] at g1
    have rI0 : rI (3 + (δ + 1)) = 0 := by unfold rI; rw [if_neg (by omega)]
    have T1 : Tr (3 + (δ + 1)) m1 (mr 1) n := ⟨g1, w2, w3, by rw [rI0]; exact w4.fr (by decide) f1⟩
    obtain ⟨m2, q2, t2, f2, -⟩ := T1.go (by omega) han over
    have F12 : Fr (gymP (3 + (δ + 1))) mc m2 := f1.tr f2
    have m2q : ∀ q, (q < 68 + 13 * (3 + (δ + 1)) ∨ 68 + 13 * (3 + (δ + 1)) + 13 ≤ q) → m2 q = mc q := fun q hq => F12 q (by unfold gymP gp; omega)
    let r2 := up (upA mr 1 (goS (mr 1) a)) 0 13 (doneR (mr 1) a)
    have q3 : fX12_goesWith (nI a) mr = some (worthS (mr 1) a, r2) := goesWith_r w2 han w3 (j := 0) (mc := mc) w4.2.2.2
    have r21 : r2 1 = goS (mr 1) a := (up_row (by decide)).trans upA_same
    have r2q : ∀ q, q ≠ 0 → q ≠ 1 → r2 q = mr q := fun q q0 q1 => (up_row q0).trans (upA_ne q1)
    have r20 : ∀ k, k ≠ 13 → r2 0 k = mr 0 k := fun k hk => (up_ne (Or.inr hk)).trans (congrFun (upA_ne (by decide)) k)
    have W1 : Wk L (δ + 1) n t e m2 r2 := by
      refine ⟨by rw [r21]; exact t2.1, by rw [r21]; exact t2.2.1, by rw [r21]; exact t2.2.2.1, ?_, fun i hi1 hi2 => ?_, by rw [r21, goS_1 w2 han, w6, p1]; rfl, by rw [r21, goS_2 w2 han]; exact w7⟩
      · rw [r21]
        have := t2.2.2.2
        rw [rI0] at this
        exact this
      · obtain ⟨s'', g'', st'', c''⟩ := w5 i (by omega) hi2
        refine ⟨s'', g''.of_eq (fun k hk _ _ => m2q _ (by unfold gp; omega)), by rw [r21]; exact (goS_stat w2 han).symm.tr st'', by rw [r21, goS_out w2 han (by omega) (by omega) (by omega)]; exact c''⟩
    obtain ⟨v, mc4, mr4, e4, e5, W4, o4, fc4, fr4, -⟩ := ih m2 r2 W1 (by rw [m2q 64 (by omega)]; exact h2)
    have o4' : mr4 1 = goS (mr 1) a := o4.trans r21
    have h34 : ∀ k, k < 47 → mr4 3 (47 * δ + k) = mr 1 k := fun k hk => by rw [fr4.2.2 _ (by omega), r2q 3 (by decide) (by decide)]; exact h3 k hk
    have bk : fX12_laysBack (nI δ) mr4 = some (0, upA mr4 1 (mr 1)) := back_r (by omega) h34 (fun k hk => by rw [o4', goS_out w2 han (by omega) (by omega) (by omega)])
    let mr5 := upA mr4 1 (mr 1)
    have r51 : mr5 1 = mr 1 := upA_same
    have r5q : ∀ q, q ≠ 1 → mr5 q = mr4 q := fun q hq => upA_ne hq
    have mc4q : ∀ q, (q < 64 ∨ q = 65 ∨ q = 66 ∨ q = 67 ∨ (68 ≤ q ∧ q < 68 + 13 * (4 + δ))) → mc4 q = mc q := fun q hq => (fc4.1 q (by omega)).trans (m2q q (by omega))
    have W5 : ∀ mc5 : Mm, (∀ q, q ≠ 64 → mc5 q = mc4 q) → Wk L δ n t e mc5 mr5 := by
      intro mc5 h5
      refine ⟨?_, by rw [r51]; exact w2, by rw [r51]; exact w3, ?_, fun i hi1 hi2 => ?_, by rw [r51]; exact w6, by rw [r51]; exact w7⟩
      · rw [r51]; exact w1.of_eq (fun k hk _ _ => (h5 _ (by unfold gp; omega)).trans (mc4q _ (by unfold gp; omega)))
      · rw [r51]; exact w4.of_eq (fun k hk => (h5 _ (by unfold rp; omega)).trans (mc4q _ (by unfold rp; omega)))
      · rw [r51]
        by_cases ei : i = δ + 1
        · subst ei
          refine ⟨goS (mr 1) a, ?_, goS_stat w2 han, goS_out w2 han (by omega) (by omega) (by omega)⟩
          rw [← o4']
          exact W4.1.of_eq (fun k hk _ _ => h5 _ (by unfold gp; omega))
        · obtain ⟨s'', g'', st'', c''⟩ := W4.2.2.2.2.1 i (by omega) hi2
          rw [o4'] at st'' c''
          exact ⟨s'', g''.of_eq (fun k hk _ _ => h5 _ (by unfold gp; omega)), (goS_stat w2 han).tr st'', c''.trans (goS_out w2 han (by omega) (by omega) (by omega))⟩
    have FGa : FG δ mc mc4 := ⟨mc4q, fun k hk => (fc4.2.1 k hk).trans (by rw [m2q 64 (by omega)]), fun hk => (fc4.2.2 (by omega)).trans (by rw [m2q 64 (by omega)])⟩
    have FRa : FGr δ mr mr5 := ⟨fun q q0 q3 => by
      by_cases h1 : q = 1
      · rw [h1]; exact r51
      · rw [r5q q h1, fr4.1 q q0 q3, r2q q q0 h1], fun k hk h22 => by rw [r5q 0 (by decide), fr4.2.1 k hk h22, r20 k hk], fun k hk => by rw [r5q 3 (by decide), fr4.2.2 k (by omega), r2q 3 (by decide) (by decide)]⟩
    generalize hX : (if nI δ - nI δ / 2 * 2 = 0 then (1 : Int32) else 0) = X at ihd ⊢
    have take : ∃ r mc' mr', fX7_playOn_101 (rX7_playOn f) (fun x1 x2 y3 x4 x5 m => fX7_playOn_37 (rX7_playOn f) q x1 x2 y3 x4 x5 m) (nI δ) X (3 + (δ + 1)) (nI a) (worthS (mr 1) a + v) mc4 = some (r, mc') ∧ fX12_valueFrom_90 (rX12_valueFrom fr) (fun x1 x2 x3 x4 x5 m => fX12_valueFrom_27 (rX12_valueFrom fr) q' x1 x2 x3 x4 x5 m) (nI δ) (nI N) (nI a) (worthS (mr 1) a + v) mr5 = some (r, mr') ∧ Wk L δ n t e mc' mr' ∧ mr' 1 = mr 1 ∧ FG δ mc mc' ∧ FGr δ mr mr' ∧ (δ = 0 → mc' 64 11 = mr' 0 22) := by
      unfold fX7_playOn_101 fX12_valueFrom_90
      by_cases d0 : δ = 0
      · have dI : nI δ = 0 := by rw [d0]; rfl
        obtain ⟨r, mc6, mr6, e6, e7, W6, o6, fc6, fr6, z6⟩ := ihd (a + 1) q q' (up mc4 64 11 (nI a)) mr5 (worthS (mr 1) a + v) (nI a) (by omega) (by omega) (by omega) (W5 _ (fun q hq => up_row hq)) (by rw [up_ne (Or.inr (by decide)), FGa.2.1 2 (by decide)]; exact h2) (fun k hk => by rw [r5q 3 (by decide), r51]; exact h34 k hk) (Or.inr ⟨by omega, nI_pos (by omega), fun _ => up_at⟩)
        rw [if_pos dI, lt_v, lt_v, lt_v, p1 (n := a)]
        exact ⟨r, mc6, mr6, e6, e7, W6, o6.trans r51, FG.tr ⟨fun q hq => by rw [up_row (by omega)]; exact FGa.1 q hq, fun k hk => by rw [up_ne (Or.inr hk)]; exact FGa.2.1 k hk, fun hk => by omega⟩ fc6, FRa.tr fr6, z6⟩
      · obtain ⟨r, mc6, mr6, e6, e7, W6, o6, fc6, fr6, z6⟩ := ihd (a + 1) q q' mc4 mr5 (worthS (mr 1) a + v) (nI a) (by omega) (by omega) (by omega) (W5 mc4 (fun q hq => rfl)) (by rw [FGa.2.1 2 (by decide)]; exact h2) (fun k hk => by rw [r5q 3 (by decide), r51]; exact h34 k hk) (Or.inr ⟨by omega, nI_pos (by omega), fun h => absurd h d0⟩)
        rw [if_neg (nI_ne0 (by omega) (by omega)), lt_v, lt_v, p1 (n := a)]
        exact ⟨r, mc6, mr6, e6, e7, W6, o6.trans r51, FGa.tr fc6, FRa.tr fr6, z6⟩
    have skip : 0 < a → ∃ r mc' mr', fX7_playOn_37 (rX7_playOn f) q (nI δ) X (3 + (δ + 1)) best (nI (a + 1)) mc4 = some (r, mc') ∧ fX12_valueFrom_27 (rX12_valueFrom fr) q' (nI δ) (nI N) best act (nI (a + 1)) mr5 = some (r, mr') ∧ Wk L δ n t e mc' mr' ∧ mr' 1 = mr 1 ∧ FG δ mc mc' ∧ FGr δ mr mr' ∧ (δ = 0 → mc' 64 11 = mr' 0 22) := by
      intro ap
      rcases hA with ⟨a0, -⟩ | ⟨-, hn0, hf⟩
      · omega
      obtain ⟨r, mc6, mr6, e6, e7, W6, o6, fc6, fr6, z6⟩ := ihd (a + 1) q q' mc4 mr5 best act (by omega) (by omega) (by omega) (W5 mc4 (fun q hq => rfl)) (by rw [FGa.2.1 2 (by decide)]; exact h2) (fun k hk => by rw [r5q 3 (by decide), r51]; exact h34 k hk) (Or.inr ⟨by omega, hn0, fun h => by
        rw [fc4.2.2 (by omega), m2q 64 (by omega)]; exact hf h⟩)
      exact ⟨r, mc6, mr6, e6, e7, W6, o6.trans r51, FGa.tr fc6, FRa.tr fr6, z6⟩
    rw [fX7_playOn_37, fX12_valueFrom_27, g'.1.1, st'.1, w2.1, if_neg hnl, if_neg hnl, gx_n (by omega) (by decide), ix_n (by omega), q1, bd_s, q2, bd_s, q3, bd_s, p1 (n := δ), e4, e5, bd_s, bd_s, lt_v (v := worthS (mr 1) a + v), lt_v (v := worthS (mr 1) a + v), bk, bd_s]
    rcases hA with ⟨a0, a1⟩ | ⟨a0, a1, -⟩
    · rw [if_pos (show nI a ≤ 0 by rw [a0]; decide), if_pos (show act < 0 by rw [a1]; decide)]
      exact take
    · rw [if_neg (nI_nle a0 (by omega)), if_neg a1, p1 (n := a)]
      by_cases c : nI δ - nI δ / 2 * 2 = 0
      · rw [if_pos c] at hX
        subst hX
        rw [if_neg (show ¬ (1 : Int32) = 0 by decide), if_pos c]
        by_cases k : best < worthS (mr 1) a + v
        · rw [if_pos k, if_neg (Int32.not_le.mpr k)]; exact take
        · rw [if_neg k, if_pos (Int32.not_lt.mp k), lt_v, lt_v]; exact skip a0
      · rw [if_neg c] at hX
        subst hX
        rw [if_pos rfl, if_neg c]
        by_cases k : worthS (mr 1) a + v < best
        · rw [if_pos k, if_neg (Int32.not_le.mpr k)]; exact take
        · rw [if_neg k, if_pos (Int32.not_lt.mp k), lt_v, lt_v]; exact skip a0
