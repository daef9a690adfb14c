/-! the best weight, the best machine -/
def bestF (s : Nat → Int32) (slot : Nat) : Nat → Nat → Int32 → Int32 → Int32
  | 0, _, _, best => best
  | d + 1, v, most, best => if onF 16 (upd s slot (nI v)) 0 ≤ most then bestF s slot d (v + 1) most best else bestF s slot d (v + 1) (onF 16 (upd s slot (nI v)) 0) (nI v)
theorem best_c {mc0 : Mm} {n o w hi : Nat} {s : Nat → Int32} (hw : w = 1 ∨ w = 2) (ho : o < n) (hn : GymOk s n) (hR : RulesOk s) (hh : sMost w = nI hi) (h9 : hi ≤ 9)
    (hv : ∀ v, v ≤ hi → (if w = 1 then 0 else 1) ≤ v → Bd (if w = 0 ∨ w = 2 then 1 else 0) (if w = 0 ∨ w = 1 then 5 else if w = 3 then 2 else 9) (nI v)) :
    ∀ (d v q : Nat) (m : Mm) (most best : Int32), v + d = hi + 1 → (if w = 1 then 0 else 1) ≤ v → d < q → GymIs 0 m s → RulesIs 0 m s → Fr (gymP 2) mc0 m →
    ∃ m', fX11_bestFor_16 q (nI o) (nI w) most best (nI v) m = some (bestF s (8 + 5 * o + w) d v most best, m') ∧ Fr (gymP 2) mc0 m' := by
  intro d
  have h6 := hn.2.1
  induction d with
  | zero =>
    intro v q m most best hd hv0 hq hG hI hF
    obtain ⟨q, rfl⟩ : ∃ q', q = q' + 1 := ⟨q - 1, by omega⟩
    rw [fX11_bestFor_16, gx_n (by omega) (by decide), ix_n (by omega), hh, if_pos (nI_lt (by omega) (by omega))]
    exact ⟨m, rfl, hF⟩
  | succ d ih =>
    intro v q m most best hd hv0 hq hG hI hF
    obtain ⟨q, rfl⟩ : ∃ q', q = q' + 1 := ⟨q - 1, by omega⟩
    obtain ⟨m1, e1, g1, f1⟩ := copy_c (i := 2) (j := 0) (by omega) hG
    have g2 := g1.up_of (w := w) (o := o) (v := nI v) (by omega) (by omega)
    have R2 : RulesIs 0 (up m1 (gp 2 (2 + w)) o (nI v)) (upd s (8 + 5 * o + w) (nI v)) := ((hI.fr (by decide) f1).fr (by decide) (Fr.rf.up (gymP_in (i := 2) (k := 2 + w) (by omega)))).row_eq (fun k hk => pk_un (by omega))
    have T2 : Tr 2 (up m1 (gp 2 (2 + w)) o (nI v)) (upd s (8 + 5 * o + w) (nI v)) n := ⟨g2, hn.put ho (by omega) (hv v (by omega) hv0), hR.of_eq (fun k hk => pk_un (by omega)), R2⟩
    obtain ⟨m3, e3, f3⟩ := goRest_c (i := 2) (by decide) (N := 16) (by decide) 16 0 FL _ _ 0 (by omega) (by decide) T2
    have F3 : Fr (gymP 2) m m3 := (f1.up (gymP_in (by omega))).tr f3
    have ne0 : ∀ k, k < 13 → ¬ gymP 2 (gp 0 k) := fun k hk => by unfold gymP gp; omega
    have hgo : fX1_goRest 2 16 (up m1 (gp 2 (2 + w)) o (nI v)) = some (onF 16 (upd s (8 + 5 * o + w) (nI v)) 0, m3) := e3
    rw [fX11_bestFor_16, gx_n (by omega) (by decide), ix_n (by omega), hh, if_neg (nI_nlt (by omega) (by omega)), e1, bd_s, gx_n (by omega) (by decide), ix_n (by omega), lt_v, hgo, bd_s, bestF]
    by_cases c : onF 16 (upd s (8 + 5 * o + w) (nI v)) 0 ≤ most
    · rw [if_pos c, if_pos c, lt_v, p1]
      exact ih (v + 1) q m3 most best (by omega) (by omega) (by omega) (hG.fr F3 (fun k hk _ _ => ne0 k hk)) (hI.fr (by decide) F3) (hF.tr F3)
    · rw [if_neg c, if_neg c, lt_v, p1]
      exact ih (v + 1) q m3 _ _ (by omega) (by omega) (by omega) (hG.fr F3 (fun k hk _ _ => ne0 k hk)) (hI.fr (by decide) F3) (hF.tr F3)
theorem best_r {mc m0 : Mm} {n o w hi : Nat} {s : Nat → Int32} (hw : w = 1 ∨ w = 2) (ho : o < n) (hn : GymOk s n) (hR : RulesOk s) (hS : StepsIs 0 mc s (ix (s 7))) (h9 : hi ≤ 9)
    (hv : ∀ v, v ≤ hi → (if w = 1 then 0 else 1) ≤ v → Bd (if w = 0 ∨ w = 2 then 1 else 0) (if w = 0 ∨ w = 1 then 5 else if w = 3 then 2 else 9) (nI v)) :
    ∀ (d v q : Nat) (m : Mm) (most best : Int32), v + d = hi + 1 → (if w = 1 then 0 else 1) ≤ v → d < q → (∀ k, k ≠ 8 + 5 * o + w → m 1 k = s k) → (∀ q k, q ≠ 1 → ¬ scrT q k → m q k = m0 q k) →
    ∃ m', fX12_valueFor_28 q (nI hi) (nI (8 + 5 * o + w)) (s (8 + 5 * o + w)) best most (nI v) m = some (bestF s (8 + 5 * o + w) d v most best, m') ∧ m' 1 = s ∧ (∀ q k, q ≠ 1 → ¬ scrT q k → m' q k = m0 q k) := by
  intro d
  have h6 := hn.2.1
  induction d with
  | zero =>
    intro v q m most best hd hv0 hq h1 hF
    obtain ⟨q, rfl⟩ : ∃ q', q = q' + 1 := ⟨q - 1, by omega⟩
    rw [fX12_valueFor_28, if_pos (nI_lt (by omega) (by omega)), gx_n (by omega) (by decide), ix_n (by omega), lt_v]
    refine ⟨_, rfl, ?_, fun q k hq hs => by rw [up_row hq]; exact hF q k hq hs⟩
    funext k
    rw [up_app, if_pos rfl]
    split
    · next e => rw [e]
    · next e => exact h1 k e
  | succ d ih =>
    intro v q m most best hd hv0 hq h1 hF
    obtain ⟨q, rfl⟩ : ∃ q', q = q' + 1 := ⟨q - 1, by omega⟩
    let m1 := up m 1 (8 + 5 * o + w) (nI v)
    have e1 : m1 1 = upd s (8 + 5 * o + w) (nI v) := by
      show up m 1 (8 + 5 * o + w) (nI v) 1 = _
      rw [up_own]
      funext k
      rw [u_app, u_app]
      split
      · rfl
      · next e => exact h1 k e
    obtain ⟨m2, e2, c2⟩ := onBy_r (m := m1) (n := n) (N := 16) (mc := mc) (by rw [e1]; exact hn.put ho (by omega) (hv v (by omega) hv0)) (by rw [e1]; exact hR.of_eq (fun k hk => pk_un (by omega))) (by
      rw [e1, pk_un (by omega)]; exact hS.row_eq (fun k hk => pk_un (by omega))) (by decide)
    rw [e1] at e2
    have e2' : fX12_onBy 16 m1 = some (onF 16 (upd s (8 + 5 * o + w) (nI v)) 0, m2) := e2
    have h2 : ∀ k, k ≠ 8 + 5 * o + w → m2 1 k = s k := fun k hk => by rw [c2 1 k (by unfold scrT; omega), e1, pk_un hk]
    have F2 : ∀ q k, q ≠ 1 → ¬ scrT q k → m2 q k = m0 q k := fun q k hq hs => by rw [c2 q k hs]; show up m 1 _ _ q k = _; rw [up_row hq]; exact hF q k hq hs
    rw [fX12_valueFor_28, if_neg (nI_nlt (by omega) (by omega)), gx_n (by omega) (by decide), ix_n (by omega)]
    show ∃ m', lt m1 _ = _ ∧ _
    rw [lt_v, e2', bd_s, bestF]
    by_cases c : onF 16 (upd s (8 + 5 * o + w) (nI v)) 0 ≤ most
    · rw [if_pos c, if_pos c, fX12_valueFor_66, if_pos c, lt_v, p1]
      exact ih (v + 1) q m2 most best (by omega) (by omega) (by omega) h2 F2
    · rw [if_neg c, if_neg c, fX12_valueFor_66, if_neg c, lt_v, p1]
      exact ih (v + 1) q m2 _ _ (by omega) (by omega) (by omega) h2 F2
theorem op_best {w hi : Nat} (hw : w = 1 ∨ w = 2) (hh : sMost w = nI hi) (hl : sLeast w = nI (if w = 1 then 0 else 1)) (h9 : hi ≤ 9) (h1 : 1 ≤ hi)
    (hv : ∀ v : Nat, v ≤ hi → (if w = 1 then 0 else 1) ≤ v → Bd (if w = 0 ∨ w = 2 then 1 else 0) (if w = 0 ∨ w = 1 then 5 else if w = 3 then 2 else 9) (nI v)) {mc mr : Mm} (hR : RR mc mr) {n o : Nat} (hn : GymOk (mr 1) n) (ho : o < n) :
    ∃ r mc' mr', fX11_bestFor (nI o) (nI w) mc = some (r, mc') ∧ fX12_valueFor (nI o) (nI w) (nI (if w = 1 then 0 else 1)) (nI hi) mr = some (r, mr') ∧ RR mc' mr' := by
  have h6 := hn.2.1
  have lo : (if w = 1 then 0 else 1) ≤ 1 := by split <;> omega
  obtain ⟨m1, q1, f1⟩ := best_c (mc0 := mc) hw ho hn hR.2.1.2.1 hh h9 hv (hi + 1 - (if w = 1 then 0 else 1)) (if w = 1 then 0 else 1) FL mc (-1) (nI (if w = 1 then 0 else 1)) (by omega) (by omega) (by unfold FL; omega) hR.1.1 hR.1.2.1 Fr.rf
  obtain ⟨m2, q2, e2, f2⟩ := best_r (mc := mc) (m0 := mr) hw ho hn hR.2.1.2.1 hR.steps h9 hv (hi + 1 - (if w = 1 then 0 else 1)) (if w = 1 then 0 else 1) FL mr (-1) (nI (if w = 1 then 0 else 1)) (by omega) (by omega) (by unfold FL; omega) (fun k _ => rfl) (fun q k _ _ => rfl)
  refine ⟨bestF (mr 1) (8 + 5 * o + w) (hi + 1 - (if w = 1 then 0 else 1)) (if w = 1 then 0 else 1) (-1) (nI (if w = 1 then 0 else 1)), m1, m2, ?_, ?_, hR.of_eq (ce_trial (by decide) f1) (fun q k hq => ?_)⟩
  · unfold fX11_bestFor
    rw [gx_n (by omega) (by decide), ix_n (by omega), hl, lt_v, lt_v]
    exact q1
  · unfold fX12_valueFor
    rw [e_one, nI_add, lt_v, gx_n (by omega) (by decide), ix_n (by omega), lt_v]
    exact q2
  · by_cases h : q = 1
    · subst h; rw [e2]
    · exact f2 q k h (fun z => hq (scrT_R z))
theorem op_weightFor (a1 : Int32) : Op (fX11_weightFor a1) (fX12_weightFor a1) := by
  intro mc mr hR
  obtain ⟨n, hn⟩ := hR.2.1.1
  have h6 := hn.2.1
  unfold fX11_weightFor fX12_weightFor
  rw [hR.has hn, isOne_r hn.1, bd_s, bd_s]
  rcases isS_cases a1 (n := n) (by omega) with e | ⟨e, o, ho, rfl⟩
  · rw [e, if_pos b2f, if_pos b2f]; exact ⟨-1, mc, mr, rfl, rfl, hR⟩
  rw [e, if_neg b2t, if_neg b2t]
  obtain ⟨r, m1, m2, q1, q2, h⟩ := op_best (w := 2) (hi := 9) (Or.inr rfl) (by decide) (by decide) (by decide) (by decide) (fun v h1 h2 => Bd.n h2 h1) hR hn ho
  have q1' : fX11_bestFor (nI o) 2 mc = some (r, m1) := q1
  have q2' : fX12_valueFor (nI o) 2 1 9 mr = some (r, m2) := q2
  rw [q1', q2', bd_s, bd_s]
  exact ⟨r, m1, m2, rfl, rfl, h⟩
theorem op_machineFor (a1 : Int32) : Op (fX11_machineFor a1) (fX12_machineFor a1) := by
  intro mc mr hR
  obtain ⟨n, hn⟩ := hR.2.1.1
  have h6 := hn.2.1
  unfold fX11_machineFor fX12_machineFor
  rw [hR.has hn, isOne_r hn.1, bd_s, bd_s]
  rcases isS_cases a1 (n := n) (by omega) with e | ⟨e, o, ho, rfl⟩
  · rw [e, if_pos b2f, if_pos b2f]; exact ⟨-1, mc, mr, rfl, rfl, hR⟩
  rw [e, if_neg b2t, if_neg b2t]
  obtain ⟨r, m1, m2, q1, q2, h⟩ := op_best (w := 1) (hi := 5) (Or.inl rfl) (by decide) (by decide) (by decide) (by decide) (fun v h1 h2 => Bd.n h2 h1) hR hn ho
  have q1' : fX11_bestFor (nI o) 1 mc = some (r, m1) := q1
  have q2' : fX12_valueFor (nI o) 1 0 5 mr = some (r, m2) := q2
  rw [q1', q2', bd_s, bd_s]
  exact ⟨r, m1, m2, rfl, rfl, h⟩
