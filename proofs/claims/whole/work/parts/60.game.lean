/-- what a subtree of the game does, in both -/
def FG (δ : Nat) (m m' : Mm) : Prop := (∀ q, (q < 64 ∨ q = 65 ∨ q = 66 ∨ q = 67 ∨ (68 ≤ q ∧ q < 68 + 13 * (4 + δ))) → m' q = m q) ∧ (∀ k, k ≠ 11 → m' 64 k = m 64 k) ∧ (0 < δ → m' 64 11 = m 64 11)
def FGr (δ : Nat) (m m' : Mm) : Prop := (∀ q, q ≠ 0 → q ≠ 3 → m' q = m q) ∧ (∀ k, k ≠ 13 → k ≠ 22 → m' 0 k = m 0 k) ∧ (∀ k, k < 47 * δ → m' 3 k = m 3 k)
theorem FG.tr {δ : Nat} {a b c : Mm} (h : FG δ a b) (g : FG δ b c) : FG δ a c := ⟨fun q hq => (g.1 q hq).trans (h.1 q hq), fun k hk => (g.2.1 k hk).trans (h.2.1 k hk), fun hk => (g.2.2 hk).trans (h.2.2 hk)⟩
theorem FGr.tr {δ : Nat} {a b c : Mm} (h : FGr δ a b) (g : FGr δ b c) : FGr δ a c := ⟨fun q q0 q3 => (g.1 q q0 q3).trans (h.1 q q0 q3), fun k hk h2 => (g.2.1 k hk h2).trans (h.2.1 k hk h2), fun k hk => (g.2.2 k hk).trans (h.2.2 k hk)⟩
def GameOk (L n N t e δ : Nat) (f fr : Nat) : Prop :=
  ∀ (mc mr : Mm), Wk L δ n t e mc mr → mc 64 2 = nI L →
    ∃ r mc' mr', rX7_playOn f (nI δ) mc = some (r, mc') ∧ rX12_valueFrom fr (nI δ) (nI N) mr = some (r, mr') ∧ Wk L δ n t e mc' mr' ∧ mr' 1 = mr 1 ∧ FG δ mc mc' ∧ FGr δ mr mr' ∧ (δ = 0 → 0 < L → mc' 64 11 = mr' 0 22)
theorem game_leaf {L n N t e δ f fr : Nat} (hδ : δ = L) (hL : L ≤ 4) (hN : N ≤ 4) (hor : L = N ∨ t + L = e) (he : e ≤ 16) : GameOk L n N t e δ (f + 1) (fr + 1) := by
  intro mc mr hW h2
  subst hδ
  refine ⟨0, mc, mr, ?_, ?_, hW, rfl, ⟨fun _ _ => rfl, fun _ _ => rfl, fun _ => rfl⟩, ⟨fun _ _ _ => rfl, fun _ _ _ => rfl, fun _ _ => rfl⟩, fun h0 h1 => by omega⟩
  · show fX7_playOn (rX7_playOn f) (nI δ) mc = _
    unfold fX7_playOn
    rw [h2, if_neg (nI_nlt (Nat.le_refl δ) (by omega))]
  · show fX12_valueFrom (rX12_valueFrom fr) (nI δ) (nI N) mr = _
    unfold fX12_valueFrom
    by_cases c : δ = N
    · subst c; rw [if_pos rfl]
    · rw [if_neg (fun q => c ((nI_eq (by omega) (by omega)).mp q)), isOver_r, bd_s, hW.2.2.2.2.2.1, hW.2.2.2.2.2.2, decide_eq_false (nI_nlt (by omega) (by omega)), if_neg (show ¬ b2 (!false) = 0 by decide)]
