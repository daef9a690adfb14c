theorem raw_n : ∀ g, g < 19 → ∀ t, t < 10 → ∀ a, a < 4 → (if 0 < nI g - nI t - nI a then nI g - nI t - nI a else 0) = nI (g - t - a) := by decide +kernel
theorem gains_bd {k w : Nat} {t : Int32} (k1 : 1 ≤ k) (k5 : k ≤ 5) (w1 : 1 ≤ w) (w9 : w ≤ 9) : ∃ g, g < 19 ∧ gainsK k (nI w) t = nI g := by
  unfold gainsK
  rcases (show k = 1 ∨ k = 2 ∨ k = 3 ∨ k = 4 ∨ k = 5 by omega) with rfl | rfl | rfl | rfl | rfl
  · exact ⟨w + 2, by omega, by rw [if_pos rfl, p2]⟩
  · exact ⟨w - 1, by omega, by rw [if_neg (by decide), if_pos rfl, m1 w1]⟩
  · by_cases c : t - t / 2 * 2 = 0
    · exact ⟨w + 2, by omega, by rw [if_neg (by decide), if_neg (by decide), if_pos rfl, if_pos c, p2]⟩
    · exact ⟨w - 1, by omega, by rw [if_neg (by decide), if_neg (by decide), if_pos rfl, if_neg c, m1 w1]⟩
  · exact ⟨w, by omega, by rw [if_neg (by decide), if_neg (by decide), if_neg (by decide), if_neg (by decide)]⟩
  · exact ⟨2 * w, by omega, by rw [if_neg (by decide), if_neg (by decide), if_neg (by decide), if_pos rfl, show (2 : Int32) = nI 2 from rfl, pk_mul]⟩
theorem worthS_bd {s : Nat → Int32} {n a : Nat} (h : GymOk s n) (ha : a ≤ n) : ∃ x : Nat, x ≤ 20 ∧ worthS s a = nI x := by
  unfold worthS
  cases hc : actsS s a
  · exact ⟨0, by omega, rfl⟩
  · rw [if_pos rfl]
    have h1 : 1 ≤ a := by unfold actsS at hc; simp at hc; exact hc.1
    obtain ⟨h0, h6, -, hS1, hT, hL, -⟩ := h
    obtain ⟨⟨k, k1, k5, hk⟩, ⟨ma, -, m5, hma⟩, ⟨w, w1, w9, hw⟩, ⟨u, -, u2, hu⟩, -⟩ := hS1 (a - 1) (by omega)
    obtain ⟨tt, -, t9, ht⟩ := hT u (by omega)
    obtain ⟨l, -, l9, hl⟩ := hL ma (by omega)
    obtain ⟨g, g19, hg⟩ := gains_bd (t := s 1) k1 k5 w1 w9
    have ha3 := apart_lt (l := l) (w := w) (by omega) (by omega)
    have hf : fullS s (a - 1) = nI (g - tt - apartN l w / 3) := by
      unfold fullS rawS gainS muS maS
      rw [hk, hw, hu, hma, ix_n (by omega), ix_n (by omega), ix_n (by omega), ix_n (by omega), hl, ht, ix_n (by omega), hg]
      exact raw_n g g19 tt (by omega) _ (by omega)
    unfold worthDo
    rw [hf]
    cases easeS s a
    · exact ⟨g - tt - apartN l w / 3, by omega, rfl⟩
    · exact ⟨(g - tt - apartN l w / 3) / 2, by omega, by rw [if_pos rfl, show (2 : Int32) = nI 2 from rfl, pk_div (by omega) (by decide) (by decide)]⟩
theorem StatEq.symm {a b : Nat → Int32} (h : StatEq a b) : StatEq b a := ⟨h.1.symm, h.2.1.symm, fun o ho w hw => (h.2.2.1 o ho w hw).symm, fun k hk => (h.2.2.2 k hk).symm⟩
/-- at depth δ of a search of L minutes, from minute t on -/
def Wk (L δ n t e : Nat) (mc mr : Mm) : Prop :=
  GymIs (3 + δ) mc (mr 1) ∧ GymOk (mr 1) n ∧ RulesOk (mr 1) ∧ RulesIs 0 mc (mr 1) ∧ (∀ i, δ < i → i ≤ L → ∃ s', GymIs (3 + i) mc s' ∧ StatEq (mr 1) s' ∧ s' 4 = mr 1 4) ∧ mr 1 1 = nI (t + δ) ∧ mr 1 2 = nI e
def FC (δ : Nat) (m m' : Mm) : Prop := (∀ q, (q < 64 ∨ q = 65 ∨ (68 ≤ q ∧ q < 68 + 13 * (4 + δ))) → m' q = m q) ∧ (∀ k, (k < 6 ∨ 9 < k) → m' 64 k = m 64 k) ∧ (∀ k, k < δ → m' 66 k = m 66 k)
def FRr (δ : Nat) (m m' : Mm) : Prop := (∀ q, q ≠ 0 → q ≠ 3 → q ≠ 6 → q ≠ 7 → m' q = m q) ∧ (∀ k, (k < 13 ∨ (13 < k ∧ k < 16) ∨ k = 19 ∨ 21 < k) → m' 0 k = m 0 k) ∧ (∀ k, k < 47 * δ → m' 3 k = m 3 k) ∧ (∀ k, k < δ → m' 6 k = m 6 k)
theorem FC.tr {δ : Nat} {a b c : Mm} (h : FC δ a b) (g : FC δ b c) : FC δ a c := ⟨fun q hq => (g.1 q hq).trans (h.1 q hq), fun k hk => (g.2.1 k hk).trans (h.2.1 k hk), fun k hk => (g.2.2 k hk).trans (h.2.2 k hk)⟩
theorem FRr.tr {δ : Nat} {a b c : Mm} (h : FRr δ a b) (g : FRr δ b c) : FRr δ a c := ⟨fun q q0 q3 q6 q7 => (g.1 q q0 q3 q6 q7).trans (h.1 q q0 q3 q6 q7), fun k hk => (g.2.1 k hk).trans (h.2.1 k hk), fun k hk => (g.2.2.1 k hk).trans (h.2.2.1 k hk), fun k hk => (g.2.2.2 k hk).trans (h.2.2.2 k hk)⟩
theorem FC.rf {δ : Nat} {a : Mm} : FC δ a a := ⟨fun _ _ => rfl, fun _ _ => rfl, fun _ _ => rfl⟩
theorem FRr.rf {δ : Nat} {a : Mm} : FRr δ a a := ⟨fun _ _ _ _ _ => rfl, fun _ _ => rfl, fun _ _ => rfl, fun _ _ => rfl⟩
theorem PR.fr {L n : Nat} {mc mr mc' mr' : Mm} (h : PR L n mc mr) (c : mc' 64 = mc 64) (c2 : mc' 67 = mc 67) (r : ∀ k, 16 ≤ k → k ≤ 21 → mr' 0 k = mr 0 k) (r2 : mr' 7 = mr 7) : PR L n mc' mr' := by
  unfold PR Found
  rw [c, c2, r 16 (by omega) (by omega), r 17 (by omega) (by omega), r 18 (by omega) (by omega), r 19 (by omega) (by omega), r 20 (by omega) (by omega), r 21 (by omega) (by omega), r2]
  exact h
/-- what a subtree's walk does, in both -/
def WalkOk (L n N t e δ : Nat) (f fr : Nat) : Prop :=
  ∀ (mc mr : Mm) (v τ : Nat) (done : Int32), v ≤ 20 * δ → τ ≤ δ → Wk L δ n t e mc mr → PR L n mc mr → (∀ k, k < δ → mc 66 k = mr 6 k ∧ Bd 0 n (mr 6 k)) →
    ∃ mc' mr', rX7_walk f (nI δ) (nI v) (nI τ) done mc = some (0, mc') ∧ rX12_plans fr (nI δ) (nI N) (nI v) (nI τ) done mr = some (0, mr') ∧ Wk L δ n t e mc' mr' ∧ PR L n mc' mr' ∧ Found L n mc' mr' ∧ (∀ k, k < δ → mc' 66 k = mr' 6 k ∧ Bd 0 n (mr' 6 k)) ∧ mr' 1 = mr 1 ∧ FC δ mc mc' ∧ FRr δ mr mr'
theorem walk_loop {L n N t e δ f fr : Nat} (hL : L ≤ 4) (hδ : δ < L) (htL : t + L ≤ e) (he : e ≤ 16) (ih : WalkOk L n N t e (δ + 1) f fr) :
    ∀ (d a q q' : Nat) (mc mr : Mm) (v τ : Nat) (done : Int32), a + d = n + 1 → d < q → d < q' → v ≤ 20 * δ → τ ≤ δ → Wk L δ n t e mc mr → PR L n mc mr → (∀ k, k < δ → mc 66 k = mr 6 k ∧ Bd 0 n (mr 6 k)) → (∀ k, k < 47 → mr 3 (47 * δ + k) = mr 1 k) → (Found L n mc mr ∨ a = 0) →
    ∃ mc' mr', fX7_walk_30 (rX7_walk f) q (nI δ) (nI v) (nI τ) done (3 + (δ + 1)) (nI a) mc = some (0, mc') ∧ fX12_plans_140 (rX12_plans fr) q' (nI δ) (nI N) (nI v) (nI τ) done (nI a) mr = some (0, mr') ∧ Wk L δ n t e mc' mr' ∧ PR L n mc' mr' ∧ Found L n mc' mr' ∧ (∀ k, k < δ → mc' 66 k = mr' 6 k ∧ Bd 0 n (mr' 6 k)) ∧ mr' 1 = mr 1 ∧ FC δ mc mc' ∧ FRr δ mr mr' := by
  intro d
  induction d with
  | zero =>
    intro a q q' mc mr v τ done hd hq hq' hv hτ hW hP hA h3 hF
    obtain ⟨q, rfl⟩ : ∃ z, q = z + 1 := ⟨q - 1, by omega⟩
    obtain ⟨q', rfl⟩ : ∃ z, q' = z + 1 := ⟨q' - 1, by omega⟩
    have hW0 := hW
    obtain ⟨w1, w2, w3, w4, w5, w6, w7⟩ := hW
    have h6 := w2.2.1
    obtain ⟨s', g', st', -⟩ := w5 (δ + 1) (by omega) (by omega)
    have hlt : nI n < nI a := nI_lt (by omega) (by omega)
    rw [fX7_walk_30, fX12_plans_140, g'.1.1, st'.1, w2.1, if_pos hlt, if_pos hlt]
    exact ⟨mc, mr, rfl, rfl, hW0, hP, hF.elim id (fun z => by omega), hA, rfl, FC.rf, FRr.rf⟩
  | succ d ihd =>
    intro a q q' mc mr v τ done hd hq hq' hv hτ hW hP hA h3 hF
    obtain ⟨q, rfl⟩ : ∃ z, q = z + 1 := ⟨q - 1, by omega⟩
    obtain ⟨q', rfl⟩ : ∃ z, q' = z + 1 := ⟨q' - 1, by omega⟩
    obtain ⟨w1, w2, w3, w4, w5, w6, w7⟩ := hW
    have h6 := w2.2.1
    obtain ⟨s', g', st', c4⟩ := w5 (δ + 1) (by omega) (by omega)
    have hnl : ¬ nI n < nI a := nI_nlt (by omega) (by omega)
    have han : a ≤ n := by omega
    have over : mr 1 1 < mr 1 2 := by rw [w6, w7]; exact nI_lt (by omega) (by omega)
    -- the class
    obtain ⟨m1, q1, g1, f1⟩ := follow_c (i := 3 + (δ + 1)) (j := 3 + δ) (by omega) w1 g' st'
    rw [c4, upd_self] at g1
    have T1 : Tr (3 + (δ + 1)) m1 (mr 1) n := ⟨g1, w2, w3, by
      rw [show rI (3 + (δ + 1)) = 0 from by unfold rI; rw [if_neg (by omega)]]
      exact w4.fr (by decide) f1⟩
    obtain ⟨m2, q2, t2, f2, dn⟩ := T1.go (by omega) han over
    let m3 := up m2 66 δ (nI a)
    have F12 : Fr (gymP (3 + (δ + 1))) mc m2 := f1.tr f2
    have m3q : ∀ q, (q < 68 + 13 * (3 + (δ + 1)) ∨ 68 + 13 * (3 + (δ + 1)) + 13 ≤ q) → q ≠ 66 → m3 q = mc q := fun q hq h66 => (up_row h66).trans (F12 q (by unfold gymP gp; omega))
    -- the reference
    let r1 := up mr 6 δ (nI a)
    have r11 : r1 1 = mr 1 := up_row (by decide)
    let r2 := up (upA r1 1 (goS (mr 1) a)) 0 13 (doneR (mr 1) a)
    have q3 : fX12_goesWith (nI a) r1 = some (worthS (mr 1) a, r2) := by
      have := goesWith_r (m := r1) (n := n) (a := a) (by rw [r11]; exact w2) han (by rw [r11]; exact w3) (j := 0) (mc := mc) (by rw [r11]; exact w4.2.2.2)
      rw [r11] at this
      exact this
    have r21 : r2 1 = goS (mr 1) a := (up_row (by decide)).trans upA_same
    have r213 : r2 0 13 = doneR (mr 1) a := up_at
    have r2q : ∀ q, q ≠ 0 → q ≠ 1 → q ≠ 6 → r2 q = mr q := fun q q0 q1 q6 => (up_row q0).trans ((upA_ne q1).trans (up_row q6))
    have r20 : ∀ k, k ≠ 13 → r2 0 k = mr 0 k := fun k hk => (up_ne (Or.inr hk)).trans ((congrFun (upA_ne (by decide)) k).trans (congrFun (up_row (by decide)) k))
    have r26 : r2 6 = upd (mr 6) δ (nI a) := (up_row (by decide)).trans ((upA_ne (by decide)).trans up_own)
    obtain ⟨x, x20, hx⟩ := worthS_bd w2 han
    let τ' : Nat := if a = 0 then τ else τ + 1
    have hτ' : τ' ≤ δ + 1 := by show (if a = 0 then τ else τ + 1) ≤ δ + 1; split <;> omega
    let done' : Int32 := if actsS (mr 1) a = true then done ||| (1 <<< (nI (a - 1) &&& 31)) else done
    have ec : fX7_walk_30 (rX7_walk f) (q + 1) (nI δ) (nI v) (nI τ) done (3 + (δ + 1)) (nI a) mc = bd (rX7_walk f (nI (δ + 1)) (nI (v + x)) (nI τ') done' m3) fun _ m_19 => fX7_walk_30 (rX7_walk f) q (nI δ) (nI v) (nI τ) done (3 + (δ + 1)) (nI (a + 1)) m_19 := by
      rw [fX7_walk_30, g'.1.1, st'.1, w2.1, if_neg hnl, gx_n (by omega) (by decide), ix_n (by omega), q1, bd_s, q2, bd_s, gx_n (by omega) (by decide)]
      show lt m3 _ = _
      have d3 : m3 (gp (3 + (δ + 1)) 0) 10 = doneC (mr 1) a := by rw [show m3 (gp (3 + (δ + 1)) 0) = m2 (gp (3 + (δ + 1)) 0) from up_row (by unfold gp; omega)]; exact dn
      rw [lt_v, d3]
      have h113 : ∀ dd, fX7_walk_91 (rX7_walk f) (fun x1 x2 x3 x4 y5 x6 m => fX7_walk_30 (rX7_walk f) q x1 x2 x3 x4 y5 x6 m) (nI δ) (nI v) (nI τ) done (3 + (δ + 1)) (nI a) (worthS (mr 1) a) dd m3 = bd (rX7_walk f (nI (δ + 1)) (nI (v + x)) (nI τ') dd m3) fun _ m_19 => fX7_walk_30 (rX7_walk f) q (nI δ) (nI v) (nI τ) done (3 + (δ + 1)) (nI (a + 1)) m_19 := by
        intro dd
        unfold fX7_walk_91 fX7_walk_113
        rw [hx, nI_add, p1 (n := δ), p1 (n := a), p1 (n := τ)]
        by_cases a0 : a = 0
        · subst a0; rw [if_pos (show nI 0 = 0 from rfl)]; rfl
        · rw [if_neg (nI_ne0 (by omega) (by omega)), show τ' = τ + 1 from if_neg a0]; rfl
      show (if doneC (mr 1) a < 0 then _ else _) = _
      unfold doneC
      show _ = bd (rX7_walk f (nI (δ + 1)) (nI (v + x)) (nI τ') (if actsS (mr 1) a = true then done ||| (1 <<< (nI (a - 1) &&& 31)) else done) m3) _
      cases actsS (mr 1) a
      · rw [if_neg (show ¬ false = true by decide), if_pos (by decide), h113]; rfl
      · rw [if_pos rfl, if_neg (nI_pos (by omega)), h113]; rfl
    have er : fX12_plans_140 (rX12_plans fr) (q' + 1) (nI δ) (nI N) (nI v) (nI τ) done (nI a) mr = bd (rX12_plans fr (nI (δ + 1)) (nI N) (nI (v + x)) (nI τ') done' r2) fun _ m_45 => bd (fX12_laysBack (nI δ) m_45) fun _ m_48 => fX12_plans_140 (rX12_plans fr) q' (nI δ) (nI N) (nI v) (nI τ) done (nI (a + 1)) m_48 := by
      rw [fX12_plans_140, w2.1, if_neg hnl, gx_n (by omega) (by decide), ix_n (by omega)]
      show lt r1 _ = _
      rw [lt_v, q3, bd_s]
      have h190 : ∀ tt, fX12_plans_190 (rX12_plans fr) (fun x1 x2 x3 x4 x5 x6 m => fX12_plans_140 (rX12_plans fr) q' x1 x2 x3 x4 x5 x6 m) (nI δ) (nI N) (nI v) (nI τ) done (nI a) tt (nI (v + x)) (nI N) (nI (δ + 1)) r2 = bd (rX12_plans fr (nI (δ + 1)) (nI N) (nI (v + x)) tt done' r2) fun _ m_45 => bd (fX12_laysBack (nI δ) m_45) fun _ m_48 => fX12_plans_140 (rX12_plans fr) q' (nI δ) (nI N) (nI v) (nI τ) done (nI (a + 1)) m_48 := by
        intro tt
        unfold fX12_plans_190 fX12_plans_211
        rw [r213, p1 (n := a)]
        unfold doneR
        show _ = bd (rX12_plans fr (nI (δ + 1)) (nI N) (nI (v + x)) tt (if actsS (mr 1) a = true then done ||| (1 <<< (nI (a - 1) &&& 31)) else done) r2) _
        cases actsS (mr 1) a
        · rw [if_neg (show ¬ false = true by decide), if_neg (by decide)]; rfl
        · rw [if_pos rfl, if_pos (nI_pos' (by omega))]; rfl
      rw [hx, nI_add, p1 (n := δ), p1 (n := τ), h190, h190]
      by_cases a0 : a = 0
      · subst a0; rw [if_pos (show nI 0 = 0 from rfl)]; rfl
      · rw [if_neg (nI_ne0 (by omega) (by omega)), show τ' = τ + 1 from if_neg a0]
    have rI0 : rI (3 + (δ + 1)) = 0 := by unfold rI; rw [if_neg (by omega)]
    have m366 : m3 66 = upd (mc 66) δ (nI a) := by
      show up m2 66 δ (nI a) 66 = _
      rw [up_own, F12 66 (by unfold gymP gp; omega)]
    have W1 : Wk L (δ + 1) n t e m3 r2 := by
      refine ⟨?_, by rw [r21]; exact t2.2.1, by rw [r21]; exact t2.2.2.1, ?_, fun i hi1 hi2 => ?_, by rw [r21, goS_1 w2 han, w6, p1]; rfl, by rw [r21, goS_2 w2 han]; exact w7⟩
      · rw [r21]; exact t2.1.of_eq (fun k hk _ _ => up_row (by unfold gp; omega))
      · rw [r21]
        have := t2.2.2.2
        rw [rI0] at this
        exact this.of_eq (fun k hk => up_row (by unfold rp; omega))
      · obtain ⟨s'', g'', st'', c''⟩ := w5 i (by omega) hi2
        refine ⟨s'', g''.of_eq (fun k hk _ _ => m3q _ (by unfold gp; omega) (by unfold gp; omega)), by rw [r21]; exact (goS_stat w2 han).symm.tr st'', by rw [r21, goS_out w2 han (by omega) (by omega) (by omega)]; exact c''⟩
    have PR1 : PR L n m3 r2 := hP.fr (m3q 64 (by omega) (by decide)) (m3q 67 (by omega) (by decide)) (fun k k1 k2 => r20 k (by omega)) (r2q 7 (by decide) (by decide) (by decide))
    have A1 : ∀ k, k < δ + 1 → m3 66 k = r2 6 k ∧ Bd 0 n (r2 6 k) := by
      intro k hk
      rw [m366, r26, u_app, u_app]
      split
      · exact ⟨rfl, Bd.n (Nat.zero_le _) han⟩
      · exact hA k (by omega)
    obtain ⟨mc4, mr4, e4, e5, W4, P4, F4, A4, o4, fc4, fr4⟩ := ih m3 r2 (v + x) τ' done' (by omega) hτ' W1 PR1 A1
    have o4' : mr4 1 = goS (mr 1) a := o4.trans r21
    have h34 : ∀ k, k < 47 → mr4 3 (47 * δ + k) = mr 1 k := fun k hk => by rw [fr4.2.2.1 _ (by omega), r2q 3 (by decide) (by decide) (by decide)]; exact h3 k hk
    have bk : fX12_laysBack (nI δ) mr4 = some (0, upA mr4 1 (mr 1)) := back_r (by omega) h34 (fun k hk => by rw [o4', goS_out w2 han (by omega) (by omega) (by omega)])
    let mr5 := upA mr4 1 (mr 1)
    have r51 : mr5 1 = mr 1 := upA_same
    have r5q : ∀ q, q ≠ 1 → mr5 q = mr4 q := fun q hq => upA_ne hq
    have mc4q : ∀ q, (q < 64 ∨ q = 65 ∨ (68 ≤ q ∧ q < 68 + 13 * (4 + δ))) → mc4 q = mc q := fun q hq => (fc4.1 q (by omega)).trans (m3q q (by omega) (by omega))
    have W5 : Wk L δ n t e mc4 mr5 := by
      refine ⟨?_, by rw [r51]; exact w2, by rw [r51]; exact w3, ?_, fun i hi1 hi2 => ?_, by rw [r51]; exact w6, by rw [r51]; exact w7⟩
      · rw [r51]; exact w1.of_eq (fun k hk _ _ => mc4q _ (by unfold gp; omega))
      · rw [r51]; exact w4.of_eq (fun k hk => mc4q _ (by unfold rp; omega))
      · rw [r51]
        by_cases ei : i = δ + 1
        · subst ei
          refine ⟨goS (mr 1) a, by rw [← o4']; exact W4.1, goS_stat w2 han, goS_out w2 han (by omega) (by omega) (by omega)⟩
        · obtain ⟨s'', g'', st'', c''⟩ := W4.2.2.2.2.1 i (by omega) hi2
          rw [o4'] at st'' c''
          exact ⟨s'', g'', (goS_stat w2 han).tr st'', c''.trans (goS_out w2 han (by omega) (by omega) (by omega))⟩
    have PR5 : PR L n mc4 mr5 := P4.fr rfl rfl (fun k _ _ => congrFun (r5q 0 (by decide)) k) (r5q 7 (by decide))
    have F5 : Found L n mc4 mr5 := by
      unfold Found
      rw [r5q 0 (by decide), r5q 7 (by decide)]
      exact F4
    obtain ⟨mc6, mr6, e6, e7, W6, P6, F6, A6, o6, fc6, fr6⟩ := ihd (a + 1) q q' mc4 mr5 v τ done (by omega) (by omega) (by omega) hv hτ W5 PR5 (fun k hk => by rw [r5q 6 (by decide)]; exact A4 k (by omega)) (fun k hk => by rw [r5q 3 (by decide), r51]; exact h34 k hk) (Or.inl F5)
    refine ⟨mc6, mr6, by rw [ec, e4, bd_s]; exact e6, by rw [er, e5, bd_s, bk, bd_s]; exact e7, W6, P6, F6, A6, o6.trans r51, FC.tr ⟨mc4q, fun k hk => ?_, fun k hk => ?_⟩ fc6, FRr.tr ⟨fun q q0 q3 q6 q7 => ?_, fun k hk => ?_, fun k hk => ?_, fun k hk => ?_⟩ fr6⟩
    · rw [fc4.2.1 k hk, m3q 64 (by omega) (by decide)]
    · rw [fc4.2.2 k (by omega), m366, pk_un (by omega)]
    · by_cases q1 : q = 1
      · rw [q1]; exact r51
      · rw [r5q q q1, fr4.1 q q0 q3 q6 q7, r2q q q0 q1 q6]
    · rw [r5q 0 (by decide), fr4.2.1 k hk, r20 k (by omega)]
    · rw [r5q 3 (by decide), fr4.2.2.1 k (by omega), r2q 3 (by decide) (by decide) (by decide)]
    · rw [r5q 6 (by decide), fr4.2.2.2 k (by omega), r26, pk_un (by omega)]
