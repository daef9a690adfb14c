theorem walk_ok {L n N t e : Nat} (hL : L ≤ 4) (hLN : L ≤ N) (hN : N ≤ 4) (htL : t + L ≤ e) (hor : L = N ∨ t + L = e) (he : e ≤ 16) : ∀ (d δ f fr : Nat), δ + d = L → d < f → d < fr → WalkOk L n N t e δ f fr := by
  intro d
  induction d with
  | zero =>
    intro δ f fr hd hf hfr mc mr v τ done hv hτ hW hP hA
    obtain ⟨f, rfl⟩ : ∃ z, f = z + 1 := ⟨f - 1, by omega⟩
    obtain ⟨fr, rfl⟩ : ∃ z, fr = z + 1 := ⟨fr - 1, by omega⟩
    have hδ : δ = L := by omega
    subst hδ
    obtain ⟨mc', mr', q1, q2, P', F', lc, lr⟩ := leaf_b (rec := rX12_plans fr) (v := v) (τ := τ) (done := done) hL (by omega) (by omega) hP hA
    have e1 : mr' 1 = mr 1 := lr.1 1 (by decide) (by decide)
    refine ⟨mc', mr', ?_, ?_, ?_, P', F', ?_, e1, ⟨fun q hq => lc.1 q (by omega) (by omega), fun k hk => lc.2 k hk, fun k hk => by rw [lc.1 66 (by decide) (by decide)]⟩, ⟨fun q q0 q3 q6 q7 => lr.1 q q0 q7, fun k hk => lr.2 k (by omega), fun k hk => by rw [lr.1 3 (by decide) (by decide)], fun k hk => by rw [lr.1 6 (by decide) (by decide)]⟩⟩
    · show fX7_walk (rX7_walk f) (nI δ) (nI v) (nI τ) done mc = _
      unfold fX7_walk
      rw [hP.1, if_neg (nI_nlt (Nat.le_refl δ) (by omega)), q1, bd_s]
    · show fX12_plans (rX12_plans fr) (nI δ) (nI N) (nI v) (nI τ) done mr = _
      unfold fX12_plans
      by_cases c : δ = N
      · subst c; rw [if_pos rfl, q2]
      · rw [if_neg (fun q => c ((nI_eq (by omega) (by omega)).mp q)), isOver_r, bd_s, hW.2.2.2.2.2.1, hW.2.2.2.2.2.2, decide_eq_false (nI_nlt (by omega) (by omega)), if_neg (show ¬ b2 (!false) = 0 by decide), q2]
    · obtain ⟨w1, w2, w3, w4, w5, w6, w7⟩ := hW
      refine ⟨?_, by rw [e1]; exact w2, by rw [e1]; exact w3, ?_, fun i h1 h2 => by omega, by rw [e1]; exact w6, by rw [e1]; exact w7⟩
      · rw [e1]; exact w1.of_eq (fun k hk _ _ => lc.1 _ (by unfold gp; omega) (by unfold gp; omega))
      · rw [e1]; exact w4.of_eq (fun k hk => lc.1 _ (by unfold rp; omega) (by unfold rp; omega))
    · intro k hk
      rw [lc.1 66 (by decide) (by decide), lr.1 6 (by decide) (by decide)]
      exact hA k hk
  | succ d ih =>
    intro δ f fr hd hf hfr mc mr v τ done hv hτ hW hP hA
    obtain ⟨f, rfl⟩ : ∃ z, f = z + 1 := ⟨f - 1, by omega⟩
    obtain ⟨fr, rfl⟩ : ∃ z, fr = z + 1 := ⟨fr - 1, by omega⟩
    have h6 := hW.2.1.2.1
    obtain ⟨g, e1, g1, g2⟩ := aside_r (a := δ) (by omega) mr
    let mr1 := upA mr 3 g
    have q1 : ∀ q, q ≠ 3 → mr1 q = mr q := fun q hq => upA_ne hq
    have W1 : Wk L δ n t e mc mr1 := by
      unfold Wk
      rw [q1 1 (by decide)]
      exact hW
    have P1 : PR L mc mr1 := hP.fr rfl rfl (fun k _ _ => congrFun (q1 0 (by decide)) k) (q1 7 (by decide))
    obtain ⟨mc', mr', r1, r2, W', P', F', A', o', fc, fr'⟩ := walk_loop (f := f) (fr := fr) (N := N) hL (show δ < L by omega) htL he (ih (δ + 1) f fr (by omega) (by omega) (by omega)) (n + 1) 0 FL FL mc mr1 v τ done (by omega) (by unfold FL; omega) (by unfold FL; omega) hv hτ W1 P1 (fun k hk => by rw [q1 6 (by decide)]; exact hA k hk) (fun k hk => by
      show upA mr 3 g 3 (47 * δ + k) = upA mr 3 g 1 k
      rw [upA_same, upA_ne (by decide)]; exact g1 k hk) (Or.inr rfl)
    refine ⟨mc', mr', ?_, ?_, W', P', F', A', o'.trans (q1 1 (by decide)), fc, FRr.tr ⟨fun q q0 q3 q6 q7 => q1 q q3, fun k hk => congrFun (q1 0 (by decide)) k, fun k hk => ?_, fun k hk => congrFun (q1 6 (by decide)) k⟩ fr'⟩
    · show fX7_walk (rX7_walk f) (nI δ) (nI v) (nI τ) done mc = _
      unfold fX7_walk
      rw [hP.1, if_pos (nI_lt (by omega) (by omega)), p1, gx_n (by omega) (by decide), ix_n (by omega)]
      exact r1
    · show fX12_plans (rX12_plans fr) (nI δ) (nI N) (nI v) (nI τ) done mr = _
      unfold fX12_plans
      rw [if_neg (fun q => by have := (nI_eq (a := δ) (b := N) (by omega) (by omega)).mp q; omega), isOver_r, bd_s, hW.2.2.2.2.2.1, hW.2.2.2.2.2.2, decide_eq_true (nI_lt (by omega) (by omega)), if_pos (show b2 (!true) = 0 from rfl), e1, bd_s]
      exact r2
    · show upA mr 3 g 3 k = mr 3 k
      rw [upA_same]; exact g2 k (by omega)
/-- all gyms of a search are prepared -/
theorem prep_c {s : Nat → Int32} {L : Nat} (hL : L ≤ 4) : ∀ (d i q : Nat) (m : Mm), i + d = L + 1 → d < q → m 64 2 = nI L → GymIs 0 m s → (∀ j, j < i → GymIs (3 + j) m s) → ∃ m', fX7_begin_19 0 q (nI i) m = some (0, m') ∧ (∀ j, j ≤ L → GymIs (3 + j) m' s) ∧ (∀ q, q < 107 → m' q = m q) := by
  intro d
  induction d with
  | zero =>
    intro i q m hd hq h2 hG hj
    obtain ⟨q, rfl⟩ : ∃ z, q = z + 1 := ⟨q - 1, by omega⟩
    rw [fX7_begin_19, h2, if_pos (nI_lt (by omega) (by omega))]
    exact ⟨m, rfl, fun j hj' => hj j (by omega), fun _ _ => rfl⟩
  | succ d ih =>
    intro i q m hd hq h2 hG hj
    obtain ⟨q, rfl⟩ : ∃ z, q = z + 1 := ⟨q - 1, by omega⟩
    obtain ⟨m1, e1, g1, f1⟩ := copy_c (i := 3 + i) (j := 0) (by omega) hG
    have z : ∀ q, (q < 68 + 13 * (3 + i)) → m1 q = m q := fun q hq => f1 q (by unfold gymP gp; omega)
    rw [fX7_begin_19, h2, if_neg (nI_nlt (by omega) (by omega)), gx_n (by omega) (by decide), ix_n (by omega), e1, bd_s, lt_v, p1]
    obtain ⟨m2, e2, g2, f2⟩ := ih (i + 1) q m1 (by omega) (by omega) (by rw [z 64 (by omega)]; exact h2) (hG.of_eq (fun k hk _ _ => z _ (by unfold gp; omega))) (fun j hj' => by
      by_cases ej : j = i
      · rw [ej]; exact g1
      · exact (hj j (by omega)).of_eq (fun k hk _ _ => z _ (by unfold gp; omega)))
    exact ⟨m2, e2, g2, fun q hq => (f2 q hq).trans (z q (by omega))⟩
theorem RR.search {mc mr : Mm} (hR : RR mc mr) {n : Nat} (hn : GymOk (mr 1) n) {N : Nat} (hN : N ≤ 4) (sets : Int32) :
    ∃ L mc' mr', L ≤ N ∧ fX7_search 0 (nI N) sets mc = some (0, mc') ∧ fX12_findsPlans (nI N) sets mr = some (0, mr') ∧ RR mc' mr' ∧ PR L mc' mr' ∧ Found L mc' mr' ∧ mr' 1 = mr 1 ∧ (∃ t e : Nat, mr 1 1 = nI t ∧ mr 1 2 = nI e ∧ t + L ≤ e ∧ e ≤ 16) := by
  obtain ⟨t, e, te, e1, e16, ht, he⟩ := hn.2.2.1
  have hG := hR.1.1
  let L := if e - t < N then e - t else N
  have hLN : L ≤ N := by show (if e - t < N then e - t else N) ≤ N; split <;> omega
  have htL : t + L ≤ e := by show t + (if e - t < N then e - t else N) ≤ e; split <;> omega
  have hor : L = N ∨ t + L = e := by show (if e - t < N then e - t else N) = N ∨ t + (if e - t < N then e - t else N) = e; split <;> omega
  have hL : (if nI e - nI t < nI N then nI e - nI t else nI N) = nI L := by
    rw [pk_sub te]
    show _ = nI (if e - t < N then e - t else N)
    by_cases c : e - t < N
    · rw [if_pos (nI_lt c (by omega)), if_pos c]
    · rw [if_neg (nI_nlt (by omega) (by omega)), if_neg c]
  let m1 := up mc 64 2 (nI L)
  have z1 : ∀ q, q ≠ 64 → m1 q = mc q := fun q hq => up_row hq
  obtain ⟨m2, b1, g2, f2⟩ := prep_c (L := L) (by omega) (L + 1) 0 FL m1 (by omega) (by unfold FL; omega) up_at (hG.of_eq (fun k hk _ _ => z1 _ (by unfold gp; omega))) (fun j hj => by omega)
  sorry
