/-! plans: what both keep of a search -/
def Found (L n : Nat) (mc mr : Mm) : Prop := mr 0 18 = nI L ∧ (∃ v : Nat, mr 0 16 = nI v ∧ v ≤ 100) ∧ ∀ k, k < L → mc 67 k = mr 7 k ∧ Bd 0 n (mr 7 k)
def PR (L n : Nat) (mc mr : Mm) : Prop :=
  mc 64 2 = nI L ∧ mc 64 5 = nI L ∧ mc 64 3 = mr 0 19 ∧ mc 64 6 = mr 0 16 ∧ mc 64 7 = mr 0 17 ∧ (mc 64 8 = mr 0 20 ∨ (mc 64 8 = 5 ∧ mr 0 20 = 9)) ∧ mc 64 9 = mr 0 21 ∧ ((mr 0 16 = -1 ∧ mr 0 17 = 0) ∨ Found L n mc mr) ∧ (mr 0 20 = 9 ∨ ∃ v : Nat, v ≤ 4 ∧ mr 0 20 = nI v)
theorem first_c {L : Nat} (hL : L ≤ 4) : ∀ (d k q : Nat) (m : Mm), k + d = L → d < q → m 64 5 = nI L → ∃ f, fX7_weigh_73 q (nI k) m = some (0, upA m 67 f) ∧ (∀ j, k ≤ j → j < L → f j = m 66 j) ∧ (∀ j, j < k → f j = m 67 j) := by
  intro d
  induction d with
  | zero =>
    intro k q m hd hq h5
    obtain ⟨q, rfl⟩ : ∃ q', q = q' + 1 := ⟨q - 1, by omega⟩
    rw [fX7_weigh_73, h5, if_pos (nI_le (by omega) (by omega))]
    exact ⟨m 67, by rw [upA_self], fun j h1 h2 => by omega, fun j _ => rfl⟩
  | succ d ih =>
    intro k q m hd hq h5
    obtain ⟨q, rfl⟩ : ∃ q', q = q' + 1 := ⟨q - 1, by omega⟩
    rw [fX7_weigh_73, h5, if_neg (nI_ge (by omega) (by omega)), gx_n (by omega) (by decide), ix_n (by omega), lt_v, lt_v, p1]
    obtain ⟨f, f1, f2, f3⟩ := ih (k + 1) q (up m 67 k (m 66 k)) (by omega) (by omega) (by rw [up_row (by decide)]; exact h5)
    refine ⟨f, ?_, fun j j1 j2 => ?_, fun j hj => by rw [f3 j (by omega), up_ne (Or.inr (by omega))]⟩
    · rw [f1]
      show some ((0 : Int32), upA (upA m 67 _) 67 f) = _
      rw [upA_upA]
    · by_cases e : j = k
      · subst e; rw [f3 _ (by omega), up_at]
      · rw [f2 j (by omega) j2, up_row (by decide)]
theorem first_r {rec : Int32 → Int32 → Int32 → Int32 → Int32 → Mm → Option (Int32 × Mm)} {x3 x4 x5 : Int32} : ∀ (d k q : Nat) (m : Mm), k + d = 4 → d < q → ∃ f, fX12_plans_38 rec q x3 x4 x5 (nI k) m = fX12_plans_64 rec x3 x4 x5 (upA m 7 f) ∧ (∀ j, k ≤ j → j < 4 → f j = m 6 j) ∧ (∀ j, j < k → f j = m 7 j) := by
  intro d
  induction d with
  | zero =>
    intro k q m hd hq
    obtain ⟨q, rfl⟩ : ∃ q', q = q' + 1 := ⟨q - 1, by omega⟩
    rw [fX12_plans_38, if_pos (show (4 : Int32) ≤ nI k from nI_le (a := 4) (by omega) (by omega))]
    exact ⟨m 7, by rw [upA_self], fun j h1 h2 => by omega, fun j _ => rfl⟩
  | succ d ih =>
    intro k q m hd hq
    obtain ⟨q, rfl⟩ : ∃ q', q = q' + 1 := ⟨q - 1, by omega⟩
    rw [fX12_plans_38, if_neg (show ¬ (4 : Int32) ≤ nI k from nI_ge (b := 4) (by omega) (by decide)), gx_n (by omega) (by decide), ix_n (by omega), lt_v, lt_v, p1]
    obtain ⟨f, f1, f2, f3⟩ := ih (k + 1) q (up m 7 k (m 6 k)) (by omega) (by omega)
    refine ⟨f, ?_, fun j j1 j2 => ?_, fun j hj => by rw [f3 j (by omega), up_ne (Or.inr (by omega))]⟩
    · rw [f1]
      show fX12_plans_64 rec x3 x4 x5 (upA (upA m 7 _) 7 f) = _
      rw [upA_upA]
    · by_cases e : j = k
      · subst e; rw [f3 _ (by omega), up_at]
      · rw [f2 j (by omega) j2, up_row (by decide)]
/-- what a search may change, in the class's memory and in the reference's -/
def LfC (m m' : Mm) : Prop := (∀ q, q ≠ 64 → q ≠ 67 → m' q = m q) ∧ ∀ k, (k < 6 ∨ 9 < k) → m' 64 k = m 64 k
def LfR (m m' : Mm) : Prop := (∀ q, q ≠ 0 → q ≠ 7 → m' q = m q) ∧ ∀ k, (k < 16 ∨ k = 19 ∨ 21 < k) → m' 0 k = m 0 k
def fewC (c : Prop) [Decidable c] (f τ : Int32) : Int32 := if c then (if τ < f then τ else f) else f
def fewR (c : Prop) [Decidable c] (f τ : Int32) : Int32 := if c then (if f ≤ τ then f else τ) else f
theorem few_b {c : Prop} [Decidable c] {f f' : Int32} {τ : Nat} (hτ : τ ≤ 4) (h8 : f = f' ∨ (f = 5 ∧ f' = 9)) (h20 : f' = 9 ∨ ∃ v : Nat, v ≤ 4 ∧ f' = nI v) :
    (fewC c f (nI τ) = fewR c f' (nI τ) ∨ (fewC c f (nI τ) = 5 ∧ fewR c f' (nI τ) = 9)) ∧ (fewR c f' (nI τ) = 9 ∨ ∃ v : Nat, v ≤ 4 ∧ fewR c f' (nI τ) = nI v) := by
  unfold fewC fewR
  by_cases hc : c
  · rw [if_pos hc, if_pos hc]
    rcases h20 with rfl | ⟨v, v4, rfl⟩
    · rw [if_neg (show ¬ (9 : Int32) ≤ nI τ from nI_ge (b := 9) (by omega) (by decide))]
      rcases h8 with rfl | ⟨rfl, -⟩
      · rw [if_pos (show nI τ < 9 from nI_lt (b := 9) (by omega) (by decide))]; exact ⟨Or.inl rfl, Or.inr ⟨τ, hτ, rfl⟩⟩
      · rw [if_pos (show nI τ < 5 from nI_lt (b := 5) (by omega) (by decide))]; exact ⟨Or.inl rfl, Or.inr ⟨τ, hτ, rfl⟩⟩
    · rcases h8 with rfl | ⟨-, h⟩
      · by_cases k : v ≤ τ
        · rw [if_pos (nI_le k (by omega)), if_neg (nI_nlt k (by omega))]; exact ⟨Or.inl rfl, Or.inr ⟨v, v4, rfl⟩⟩
        · rw [if_neg (nI_ge (by omega) (by omega)), if_pos (nI_lt (by omega) (by omega))]; exact ⟨Or.inl rfl, Or.inr ⟨τ, hτ, rfl⟩⟩
      · exact absurd h (fun q => by have := (nI_eq (a := v) (b := 9) (by omega) (by decide)).mp q; omega)
  · rw [if_neg hc, if_neg hc]; exact ⟨h8, h20⟩
theorem up_same {m : Mm} {p k : Nat} : up m p k (m p k) = m := by unfold up; rw [upd_self, upA_self]
theorem plans82 {rec : Int32 → Int32 → Int32 → Int32 → Int32 → Mm → Option (Int32 × Mm)} {x4 x5 s0 s1 : Int32} {m : Mm} :
    fX12_plans_82 rec x4 x5 s0 s1 m = some (0, up (up (up m 0 17 (s1 + s0)) 0 21 (m 0 21 ||| x5)) 0 20 (fewR (m 0 19 &&& (x5 ^^^ (-1)) = 0) (m 0 20) x4)) := by
  have e1 : up m 0 17 (s1 + s0) 0 21 = m 0 21 := up_ne (Or.inr (by decide))
  have e2 : up (up m 0 17 (s1 + s0)) 0 21 (m 0 21 ||| x5) 0 19 = m 0 19 := (up_ne (Or.inr (by decide))).trans (up_ne (Or.inr (by decide)))
  have e3 : up (up m 0 17 (s1 + s0)) 0 21 (m 0 21 ||| x5) 0 20 = m 0 20 := (up_ne (Or.inr (by decide))).trans (up_ne (Or.inr (by decide)))
  unfold fX12_plans_82 fewR
  rw [lt_v, e1, lt_v, e2, e3]
  by_cases c : m 0 19 &&& (x5 ^^^ (-1)) = 0
  · rw [if_pos c, if_pos c]
    by_cases c2 : m 0 20 ≤ x4
    · rw [if_pos c2, if_pos c2, lt_v]
    · rw [if_neg c2, if_neg c2, lt_v]
  · rw [if_neg c, if_neg c, lt_v]
/-- a whole plan is weighed, in both -/
theorem leaf_b {rec : Int32 → Int32 → Int32 → Int32 → Int32 → Mm → Option (Int32 × Mm)} {L n v τ : Nat} {done : Int32} {mc mr : Mm} (hL : L ≤ 4) (hv : v ≤ 100) (hτ : τ ≤ 4) (h : PR L n mc mr) (ha : ∀ k, k < L → mc 66 k = mr 6 k ∧ Bd 0 n (mr 6 k)) :
    ∃ mc' mr', fX7_weigh (nI v) (nI τ) done mc = some (0, mc') ∧ fX12_plans_12 rec (nI L) (nI v) (nI τ) done mr = some (0, mr') ∧ PR L n mc' mr' ∧ Found L n mc' mr' ∧ LfC mc mc' ∧ LfR mr mr' := by
  obtain ⟨h2, h5, h3, h6, h7, h8, h9, hF, h20⟩ := h
  let m1 := up mc 64 9 (mc 64 9 ||| done)
  let few := fewC (mr 0 19 &&& (done ^^^ (-1)) = 0) (mc 64 8) (nI τ)
  let m2 := up m1 64 8 few
  obtain ⟨w1, w2⟩ := few_b (c := mr 0 19 &&& (done ^^^ (-1)) = 0) hτ h8 h20
  have z : ∀ k, k ≠ 8 → k ≠ 9 → m2 64 k = mc 64 k := fun k k8 k9 => (up_ne (Or.inr k8)).trans (up_ne (Or.inr k9))
  have zq : ∀ q, q ≠ 64 → m2 q = mc q := fun q hq => (up_row hq).trans (up_row hq)
  have e1 : fX7_weigh (nI v) (nI τ) done mc = fX7_weigh_33 (nI v) m2 := by
    unfold fX7_weigh
    show lt m1 _ = _
    rw [lt_v, show m1 64 3 = mr 0 19 from (up_ne (Or.inr (by decide))).trans h3]
    by_cases c : mr 0 19 &&& (done ^^^ (-1)) = 0
    · rw [if_pos c, lt_v, show m1 64 8 = mc 64 8 from up_ne (Or.inr (by decide))]
      show fX7_weigh_33 (nI v) (up m1 64 8 (if nI τ < mc 64 8 then nI τ else mc 64 8)) = fX7_weigh_33 (nI v) (up m1 64 8 (fewC _ _ _))
      unfold fewC
      rw [if_pos c]
    · rw [if_neg c]
      show fX7_weigh_33 (nI v) m1 = fX7_weigh_33 (nI v) (up m1 64 8 (fewC _ _ _))
      unfold fewC
      rw [if_neg c, show mc 64 8 = m1 64 8 from (up_ne (Or.inr (by decide))).symm, up_same]
  have z6 : m2 64 6 = mr 0 16 := (z 6 (by decide) (by decide)).trans h6
  have z7 : m2 64 7 = mr 0 17 := (z 7 (by decide) (by decide)).trans h7
  have z8 : m2 64 8 = few := up_at
  have z9 : m2 64 9 = mr 0 21 ||| done := by
    show up m1 64 8 few 64 9 = _
    rw [up_ne (Or.inr (by decide))]
    show up mc 64 9 (mc 64 9 ||| done) 64 9 = _
    rw [up_at, h9]
  -- a new best
  have best : mr 0 16 < nI v → ∃ mc' mr', fX7_weigh (nI v) (nI τ) done mc = some (0, mc') ∧ fX12_plans_12 rec (nI L) (nI v) (nI τ) done mr = some (0, mr') ∧ PR L n mc' mr' ∧ Found L n mc' mr' ∧ LfC mc mc' ∧ LfR mr mr' := by
    intro hlt
    have ne : ¬ nI v = mr 0 16 := fun q => by rw [← q] at hlt; exact Int32.lt_irrefl hlt
    let m3 := up (up m2 64 6 (nI v)) 64 7 1
    have m35 : m3 64 5 = nI L := (up_ne (Or.inr (by decide))).trans ((up_ne (Or.inr (by decide))).trans ((z 5 (by decide) (by decide)).trans h5))
    obtain ⟨f, f1, f2, f3⟩ := first_c hL L 0 FL m3 (by omega) (by unfold FL; omega) m35
    let r3 := up (up (up mr 0 16 (nI v)) 0 17 0) 0 18 (nI L)
    obtain ⟨g, g1, g2, g3⟩ := first_r (rec := rec) (x3 := nI v) (x4 := nI τ) (x5 := done) 4 0 FL r3 (by omega) (by decide)
    have r7 : ∀ k, upA r3 7 g 0 k = r3 0 k := fun k => congrFun (upA_ne (by decide)) k
    have r316 : r3 0 16 = nI v := by simp [r3, up_app]
    have r317 : r3 0 17 = 0 := by simp [r3, up_app]
    have r3o : ∀ k, k ≠ 16 → k ≠ 17 → k ≠ 18 → r3 0 k = mr 0 k := fun k a b c => by simp [r3, up_app, a, b, c]
    have f1' : fX7_weigh_73 FL 0 m3 = some (0, upA m3 67 f) := f1
    have g1' : fX12_plans_38 rec FL (nI v) (nI τ) done 0 r3 = fX12_plans_64 rec (nI v) (nI τ) done (upA r3 7 g) := g1
    have ec : fX7_weigh (nI v) (nI τ) done mc = some (0, upA m3 67 f) := by
      rw [e1]
      unfold fX7_weigh_33
      rw [z6, if_neg ne]
      unfold fX7_weigh_51
      rw [z6, if_pos hlt, lt_v, lt_v]
      exact f1'
    have er : fX12_plans_12 rec (nI L) (nI v) (nI τ) done mr = some (0, up (up (up (upA r3 7 g) 0 17 1) 0 21 (mr 0 21 ||| done)) 0 20 (fewR (mr 0 19 &&& (done ^^^ (-1)) = 0) (mr 0 20) (nI τ))) := by
      unfold fX12_plans_12
      rw [if_neg (Int32.not_le.mpr hlt), lt_v, lt_v, lt_v]
      show fX12_plans_38 rec FL (nI v) (nI τ) done 0 r3 = _
      rw [g1']
      unfold fX12_plans_64
      rw [r7, r316, if_pos rfl, plans82, r7, r7, r7, r7, r317, r3o _ (by decide) (by decide) (by decide), r3o _ (by decide) (by decide) (by decide), r3o _ (by decide) (by decide) (by decide)]
      rfl
    let D := mr 0 21 ||| done
    let F := fewR (mr 0 19 &&& (done ^^^ (-1)) = 0) (mr 0 20) (nI τ)
    let mr' := up (up (up (upA r3 7 g) 0 17 1) 0 21 D) 0 20 F
    let mc' := upA m3 67 f
    have Rk : ∀ k, mr' 0 k = if k = 20 then F else if k = 21 then D else if k = 17 then 1 else if k = 18 then nI L else if k = 17 then 0 else if k = 16 then nI v else mr 0 k := by
      intro k
      show up (up (up (upA r3 7 g) 0 17 1) 0 21 D) 0 20 F 0 k = _
      rw [up_app, if_pos rfl, up_app, if_pos rfl, up_app, if_pos rfl, r7]
      show (if k = 20 then F else if k = 21 then D else if k = 17 then 1 else up (up (up mr 0 16 (nI v)) 0 17 0) 0 18 (nI L) 0 k) = _
      rw [up_app, if_pos rfl, up_app, if_pos rfl, up_app, if_pos rfl]
    have Ck : ∀ k, mc' 64 k = if k = 7 then 1 else if k = 6 then nI v else m2 64 k := by
      intro k
      show upA m3 67 f 64 k = _
      rw [upA_ne (by decide)]
      show up (up m2 64 6 (nI v)) 64 7 1 64 k = _
      rw [up_app, if_pos rfl, up_app, if_pos rfl]
    have Rq : ∀ q, q ≠ 0 → q ≠ 7 → mr' q = mr q := by
      intro q q0 q7
      show up (up (up (upA r3 7 g) 0 17 1) 0 21 D) 0 20 F q = _
      rw [up_row q0, up_row q0, up_row q0, upA_ne q7]
      show up (up (up mr 0 16 (nI v)) 0 17 0) 0 18 (nI L) q = _
      rw [up_row q0, up_row q0, up_row q0]
    have Cq : ∀ q, q ≠ 64 → q ≠ 67 → mc' q = mc q := by
      intro q q0 q7
      show upA m3 67 f q = _
      rw [upA_ne q7]
      show up (up m2 64 6 (nI v)) 64 7 1 q = _
      rw [up_row q0, up_row q0, zq q q0]
    have fo : Found L n mc' mr' := by
      refine ⟨by rw [Rk]; rfl, ⟨v, by rw [Rk]; rfl, hv⟩, fun k hk => ?_⟩
      show upA m3 67 f 67 k = up (up (up (upA r3 7 g) 0 17 1) 0 21 D) 0 20 F 7 k ∧ Bd 0 n (up (up (up (upA r3 7 g) 0 17 1) 0 21 D) 0 20 F 7 k)
      rw [upA_same, up_row (show 7 ≠ 0 by decide), up_row (show 7 ≠ 0 by decide), up_row (show 7 ≠ 0 by decide), upA_same, f2 k (by omega) hk, g2 k (by omega) (by omega)]
      show up (up m2 64 6 (nI v)) 64 7 1 66 k = up (up (up mr 0 16 (nI v)) 0 17 0) 0 18 (nI L) 6 k ∧ Bd 0 n (up (up (up mr 0 16 (nI v)) 0 17 0) 0 18 (nI L) 6 k)
      rw [up_row (by decide), up_row (by decide), zq 66 (by decide), up_row (show 6 ≠ 0 by decide), up_row (show 6 ≠ 0 by decide), up_row (show 6 ≠ 0 by decide)]
      exact ha k hk
    refine ⟨mc', mr', ec, er, ⟨?_, ?_, ?_, ?_, ?_, ?_, ?_, Or.inr fo, ?_⟩, fo, ⟨Cq, fun k hk => ?_⟩, ⟨Rq, fun k hk => ?_⟩⟩
    · rw [Ck]; exact (z 2 (by decide) (by decide)).trans h2
    · rw [Ck]; exact (z 5 (by decide) (by decide)).trans h5
    · rw [Ck, Rk]; exact (z 3 (by decide) (by decide)).trans h3
    · rw [Ck, Rk]; rfl
    · rw [Ck, Rk]; rfl
    · rw [Ck, Rk]; exact w1
    · rw [Ck, Rk]; exact z9
    · rw [Rk]; exact w2
    · rw [Ck, if_neg (by omega), if_neg (by omega), z k (by omega) (by omega)]
    · rw [Rk, if_neg (by omega), if_neg (by omega), if_neg (by omega), if_neg (by omega), if_neg (by omega), if_neg (by omega)]
  -- no new best
  have rest : ∀ eq : Bool, (nI v = mr 0 16) = (eq = true) → ¬ mr 0 16 < nI v → Found L n mc mr → ∃ mc' mr', fX7_weigh (nI v) (nI τ) done mc = some (0, mc') ∧ fX12_plans_12 rec (nI L) (nI v) (nI τ) done mr = some (0, mr') ∧ PR L n mc' mr' ∧ Found L n mc' mr' ∧ LfC mc mc' ∧ LfR mr mr' := by
    intro eq heq hnl fo0
    let D := mr 0 21 ||| done
    let F := fewR (mr 0 19 &&& (done ^^^ (-1)) = 0) (mr 0 20) (nI τ)
    let W := mr 0 17 + b2 eq
    let mr' := up (up (up mr 0 17 W) 0 21 D) 0 20 F
    let mc' := up m2 64 7 W
    have Rk : ∀ k, mr' 0 k = if k = 20 then F else if k = 21 then D else if k = 17 then W else mr 0 k := by
      intro k
      show up (up (up mr 0 17 W) 0 21 D) 0 20 F 0 k = _
      rw [up_app, if_pos rfl, up_app, if_pos rfl, up_app, if_pos rfl]
    have Ck : ∀ k, mc' 64 k = if k = 7 then W else m2 64 k := by
      intro k
      show up m2 64 7 W 64 k = _
      rw [up_app, if_pos rfl]
    have Rq : ∀ q, q ≠ 0 → mr' q = mr q := by
      intro q q0
      show up (up (up mr 0 17 W) 0 21 D) 0 20 F q = _
      rw [up_row q0, up_row q0, up_row q0]
    have Cq : ∀ q, q ≠ 64 → mc' q = mc q := by
      intro q q0
      show up m2 64 7 W q = _
      rw [up_row q0, zq q q0]
    have ec : fX7_weigh (nI v) (nI τ) done mc = some (0, mc') := by
      rw [e1]
      unfold fX7_weigh_33
      rw [z6]
      cases eq
      · rw [if_neg (by rw [heq]; decide)]
        unfold fX7_weigh_51
        rw [z6, if_neg hnl]
        show some ((0 : Int32), m2) = some (0, up m2 64 7 (mr 0 17 + 0))
        rw [show mr 0 17 + 0 = m2 64 7 from (Int32.add_zero _).trans z7.symm, up_same]
      · rw [if_pos (by rw [heq]), lt_v, z7]
        unfold fX7_weigh_51
        rw [up_ne (Or.inr (by decide)), z6, if_neg hnl]
        rfl
    have er : fX12_plans_12 rec (nI L) (nI v) (nI τ) done mr = some (0, mr') := by
      unfold fX12_plans_12
      rw [if_pos (Int32.not_lt.mp hnl)]
      unfold fX12_plans_64
      cases eq
      · rw [if_neg (by rw [heq]; decide), plans82]; rfl
      · rw [if_pos (by rw [heq]), plans82]; rfl
    have fo : Found L n mc' mr' := by
      obtain ⟨a, ⟨b, hb, b100⟩, c⟩ := fo0
      refine ⟨by rw [Rk]; exact a, ⟨b, by rw [Rk]; exact hb, b100⟩, fun k hk => ?_⟩
      rw [Cq 67 (by decide), Rq 7 (by decide)]
      exact c k hk
    refine ⟨mc', mr', ec, er, ⟨?_, ?_, ?_, ?_, ?_, ?_, ?_, Or.inr fo, ?_⟩, fo, ⟨fun q a _ => Cq q a, fun k hk => ?_⟩, ⟨fun q a _ => Rq q a, fun k hk => ?_⟩⟩
    · rw [Ck]; exact (z 2 (by decide) (by decide)).trans h2
    · rw [Ck]; exact (z 5 (by decide) (by decide)).trans h5
    · rw [Ck, Rk]; exact (z 3 (by decide) (by decide)).trans h3
    · rw [Ck, Rk]; exact z6
    · rw [Ck, Rk]; rfl
    · rw [Ck, Rk]; exact w1
    · rw [Ck, Rk]; exact z9
    · rw [Rk]; exact w2
    · rw [Ck, if_neg (by omega), z k (by omega) (by omega)]
    · rw [Rk, if_neg (by omega), if_neg (by omega), if_neg (by omega)]
  rcases hF with ⟨hm, hw⟩ | hfo
  · exact best (by rw [hm]; exact Int32.lt_of_lt_of_le (show (-1 : Int32) < 0 by decide) (nI_pos' (by omega)))
  · by_cases c : mr 0 16 < nI v
    · exact best c
    · by_cases c2 : nI v = mr 0 16
      · exact rest true (propext ⟨fun _ => rfl, fun _ => c2⟩) c hfo
      · exact rest false (propext ⟨fun q => absurd q c2, fun q => absurd q (by decide)⟩) c hfo
