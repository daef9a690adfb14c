theorem raw_n : ∀ g, g < 19 → ∀ t, t < 10 → ∀ a, a < 4 → (if 0 < nI g - nI t - nI a then nI g - nI t - nI a else 0) = nI (g - t - a) := by decide +kernel
theorem gains_bd {k w : Nat} {t : Int32} (k1 : 1 ≤ k) (k5 : k ≤ 5) (w1 : 1 ≤ w) (w9 : w ≤ 9) : ∃ g, g < 19 ∧ gainsK k (nI w) t = nI g := by
  unfold gainsK
  rcases (show k = 1 ∨ k = 2 ∨ k = 3 ∨ k = 4 ∨ k = 5 by omega) with rfl | rfl | rfl | rfl | rfl
  · exact ⟨w + 2, by omega, by rw [if_pos rfl, p2]⟩
  · exact ⟨w - 1, by omega, by rw [if_neg (by decide), if_pos rfl, m1 w1]⟩
  · by_cases c : t - t / 2 * 2 = 0
    · exact ⟨w + 2, by omega, by rw [if_neg (by decide), if_neg (by decide), if_pos rfl, if_pos c, p2]⟩
    · exact ⟨w - 1, by omega, by rw [if_neg (by decide), if_neg (by decide), if_pos rfl, if_neg c, m1 w1]⟩
  · exact ⟨w, by omega, by rw [if_neg (by decide), if_neg (by decide), if_neg (by decide), if_neg (by decide)]⟩
  · exact ⟨2 * w, by omega, by rw [if_neg (by decide), if_neg (by decide), if_neg (by decide), if_pos rfl, show (2 : Int32) = nI 2 from rfl, pk_mul]⟩
theorem worthS_bd {s : Nat → Int32} {n a : Nat} (h : GymOk s n) (ha : a ≤ n) : ∃ x : Nat, x ≤ 20 ∧ worthS s a = nI x := by
  unfold worthS
  cases hc : actsS s a
  · exact ⟨0, by omega, rfl⟩
  · rw [if_pos rfl]
    have h1 : 1 ≤ a := by unfold actsS at hc; simp at hc; exact hc.1
    obtain ⟨h0, h6, -, hS1, hT, hL, -⟩ := h
    obtain ⟨⟨k, k1, k5, hk⟩, ⟨ma, -, m5, hma⟩, ⟨w, w1, w9, hw⟩, ⟨u, -, u2, hu⟩, -⟩ := hS1 (a - 1) (by omega)
    obtain ⟨tt, -, t9, ht⟩ := hT u (by omega)
    obtain ⟨l, -, l9, hl⟩ := hL ma (by omega)
    obtain ⟨g, g19, hg⟩ := gains_bd (t := s 1) k1 k5 w1 w9
    have ha3 := apart_lt (l := l) (w := w) (by omega) (by omega)
    have hf : fullS s (a - 1) = nI (g - tt - apartN l w / 3) := by
      unfold fullS rawS gainS muS maS
      rw [hk, hw, hu, hma, ix_n (by omega), ix_n (by omega), ix_n (by omega), ix_n (by omega), hl, ht, ix_n (by omega), hg]
      exact raw_n g g19 tt (by omega) _ (by omega)
    unfold worthDo
    rw [hf]
    cases easeS s a
    · exact ⟨g - tt - apartN l w / 3, by omega, rfl⟩
    · exact ⟨(g - tt - apartN l w / 3) / 2, by omega, by rw [if_pos rfl, show (2 : Int32) = nI 2 from rfl, pk_div (by omega) (by decide) (by decide)]⟩
theorem StatEq.symm {a b : Nat → Int32} (h : StatEq a b) : StatEq b a := ⟨h.1.symm, h.2.1.symm, fun o ho w hw => (h.2.2.1 o ho w hw).symm, fun k hk => (h.2.2.2 k hk).symm⟩
/-- at depth δ of a search of L minutes, from minute t on -/
def Wk (L δ n t e : Nat) (mc mr : Mm) : Prop :=
  GymIs (3 + δ) mc (mr 1) ∧ GymOk (mr 1) n ∧ RulesOk (mr 1) ∧ RulesIs 0 mc (mr 1) ∧ (∀ i, δ < i → i ≤ L → ∃ s', GymIs (3 + i) mc s' ∧ StatEq (mr 1) s' ∧ s' 4 = mr 1 4) ∧ mr 1 1 = nI (t + δ) ∧ mr 1 2 = nI e
def FC (δ : Nat) (m m' : Mm) : Prop := (∀ q, (q < 64 ∨ q = 65 ∨ (68 ≤ q ∧ q < 68 + 13 * (4 + δ))) → m' q = m q) ∧ (∀ k, (k < 6 ∨ 9 < k) → m' 64 k = m 64 k) ∧ (∀ k, k < δ → m' 66 k = m 66 k)
def FRr (δ : Nat) (m m' : Mm) : Prop := (∀ q, q ≠ 0 → q ≠ 3 → q ≠ 6 → q ≠ 7 → m' q = m q) ∧ (∀ k, (k < 13 ∨ (13 < k ∧ k < 16) ∨ k = 19 ∨ 21 < k) → m' 0 k = m 0 k) ∧ (∀ k, k < 47 * δ → m' 3 k = m 3 k) ∧ (∀ k, k < δ → m' 6 k = m 6 k)
theorem FC.tr {δ : Nat} {a b c : Mm} (h : FC δ a b) (g : FC δ b c) : FC δ a c := ⟨fun q hq => (g.1 q hq).trans (h.1 q hq), fun k hk => (g.2.1 k hk).trans (h.2.1 k hk), fun k hk => (g.2.2 k hk).trans (h.2.2 k hk)⟩
theorem FRr.tr {δ : Nat} {a b c : Mm} (h : FRr δ a b) (g : FRr δ b c) : FRr δ a c := ⟨fun q q0 q3 q6 q7 => (g.1 q q0 q3 q6 q7).trans (h.1 q q0 q3 q6 q7), fun k hk => (g.2.1 k hk).trans (h.2.1 k hk), fun k hk => (g.2.2.1 k hk).trans (h.2.2.1 k hk), fun k hk => (g.2.2.2 k hk).trans (h.2.2.2 k hk)⟩
theorem FC.rf {δ : Nat} {a : Mm} : FC δ a a := ⟨fun _ _ => rfl, fun _ _ => rfl, fun _ _ => rfl⟩
theorem FRr.rf {δ : Nat} {a : Mm} : FRr δ a a := ⟨fun _ _ _ _ _ => rfl, fun _ _ => rfl, fun _ _ => rfl, fun _ _ => rfl⟩
theorem PR.fr {L : Nat} {mc mr mc' mr' : Mm} (h : PR L mc mr) (c : mc' 64 = mc 64) (c2 : mc' 67 = mc 67) (r : ∀ k, 16 ≤ k → k ≤ 21 → mr' 0 k = mr 0 k) (r2 : mr' 7 = mr 7) : PR L mc' mr' := by
  unfold PR Found
  rw [c, c2, r 16 (by omega) (by omega), r 17 (by omega) (by omega), r 18 (by omega) (by omega), r 19 (by omega) (by omega), r 20 (by omega) (by omega), r 21 (by omega) (by omega), r2]
  exact h
/-- what a subtree's walk does, in both -/
def WalkOk (L n N t e δ : Nat) (f fr : Nat) : Prop :=
  ∀ (mc mr : Mm) (v τ : Nat) (done : Int32), v ≤ 20 * δ → τ ≤ δ → Wk L δ n t e mc mr → PR L mc mr → (∀ k, k < δ → mc 66 k = mr 6 k) →
    ∃ mc' mr', rX7_walk f (nI δ) (nI v) (nI τ) done mc = some (0, mc') ∧ rX12_plans fr (nI δ) (nI N) (nI v) (nI τ) done mr = some (0, mr') ∧ Wk L δ n t e mc' mr' ∧ PR L mc' mr' ∧ Found L mc' mr' ∧ (∀ k, k < δ → mc' 66 k = mr' 6 k) ∧ mr' 1 = mr 1 ∧ FC δ mc mc' ∧ FRr δ mr mr'
theorem walk_loop {L n N t e δ f fr : Nat} (hL : L ≤ 4) (hδ : δ < L) (htL : t + L ≤ e) (he : e ≤ 16) (ih : WalkOk L n N t e (δ + 1) f fr) :
    ∀ (d a q q' : Nat) (mc mr : Mm) (v τ : Nat) (done : Int32), a + d = n + 1 → d < q → d < q' → v ≤ 20 * δ → τ ≤ δ → Wk L δ n t e mc mr → PR L mc mr → (∀ k, k < δ → mc 66 k = mr 6 k) → (∀ k, k < 47 → mr 3 (47 * δ + k) = mr 1 k) → (Found L mc mr ∨ a = 0) →
    ∃ mc' mr', fX7_walk_30 (rX7_walk f) q (nI δ) (nI v) (nI τ) done (3 + (δ + 1)) (nI a) mc = some (0, mc') ∧ fX12_plans_140 (rX12_plans fr) q' (nI δ) (nI N) (nI v) (nI τ) done (nI a) mr = some (0, mr') ∧ Wk L δ n t e mc' mr' ∧ PR L mc' mr' ∧ Found L mc' mr' ∧ (∀ k, k < δ → mc' 66 k = mr' 6 k) ∧ mr' 1 = mr 1 ∧ FC δ mc mc' ∧ FRr δ mr mr' := by
  intro d
  induction d with
  | zero =>
    intro a q q' mc mr v τ done hd hq hq' hv hτ hW hP hA h3 hF
    obtain ⟨q, rfl⟩ : ∃ z, q = z + 1 := ⟨q - 1, by omega⟩
    obtain ⟨q', rfl⟩ : ∃ z, q' = z + 1 := ⟨q' - 1, by omega⟩
    have hW0 := hW
    obtain ⟨w1, w2, w3, w4, w5, w6, w7⟩ := hW
    have h6 := w2.2.1
    obtain ⟨s', g', st', -⟩ := w5 (δ + 1) (by omega) (by omega)
    have hlt : nI n < nI a := nI_lt (by omega) (by omega)
    rw [fX7_walk_30, fX12_plans_140, g'.1.1, st'.1, w2.1, if_pos hlt, if_pos hlt]
    exact ⟨mc, mr, rfl, rfl, hW0, hP, hF.elim id (fun z => by omega), hA, rfl, FC.rf, FRr.rf⟩
  | succ d ihd =>
    intro a q q' mc mr v τ done hd hq hq' hv hτ hW hP hA h3 hF
    obtain ⟨q, rfl⟩ : ∃ z, q = z + 1 := ⟨q - 1, by omega⟩
    obtain ⟨q', rfl⟩ : ∃ z, q' = z + 1 := ⟨q' - 1, by omega⟩
    obtain ⟨w1, w2, w3, w4, w5, w6, w7⟩ := hW
    have h6 := w2.2.1
    obtain ⟨s', g', st', c4⟩ := w5 (δ + 1) (by omega) (by omega)
    have hnl : ¬ nI n < nI a := nI_nlt (by omega) (by omega)
    have han : a ≤ n := by omega
    have over : mr 1 1 < mr 1 2 := by rw [w6, w7]; exact nI_lt (by omega) (by omega)
    -- the class
    obtain ⟨m1, q1, g1, f1⟩ := follow_c (i := 3 + (δ + 1)) (j := 3 + δ) (by omega) w1 g' st'
    rw [c4, upd_self] at g1
    have T1 : Tr (3 + (δ + 1)) m1 (mr 1) n := ⟨g1, w2, w3, by
      rw [show rI (3 + (δ + 1)) = 0 from by unfold rI; rw [if_neg (by omega)]]
      exact w4.fr (by decide) f1⟩
    obtain ⟨m2, q2, t2, f2, dn⟩ := T1.go (by omega) han over
    let m3 := up m2 66 δ (nI a)
    have F12 : Fr (gymP (3 + (δ + 1))) mc m2 := f1.tr f2
    have m3q : ∀ q, (q < 68 + 13 * (3 + (δ + 1)) ∨ 68 + 13 * (3 + (δ + 1)) + 13 ≤ q) → q ≠ 66 → m3 q = mc q := fun q hq h66 => (up_row h66).trans (F12 q (by unfold gymP gp; omega))
    -- the reference
    let r1 := up mr 6 δ (nI a)
    have r11 : r1 1 = mr 1 := up_row (by decide)
    have P1 : Pl (up r1 3 0 (r1 3 0)) (fun k => if k < 47 then r1 3 k else mr 1 k) n := by
      rw [up_same]
      exact ⟨by rw [r11]; exact w2, by rw [r11]; exact w3, ⟨mc, by rw [r11]; exact w4.2.2.2⟩, fun k hk => by rw [if_pos hk], fun k hk => by rw [if_neg (by omega), r11]⟩
    rw [up_same] at P1
    obtain ⟨r2, q3, e2, -, dr, fr2⟩ := P1.go (a := a) (by exact han) (by rw [r11]; exact over)
    rw [r11] at q3 e2 dr
    obtain ⟨x, x20, hx⟩ := worthS_bd w2 han
    sorry
