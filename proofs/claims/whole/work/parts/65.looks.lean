/-- the class's men after one man was looked at -/
theorem look93_c {i : Nat} {a p n w c : Nat} {m : Mm} (hf : m (mp i 0) 4 = nI c) (hc : c < 300) (hw : w < 10) :
    ∃ m', fX4_lookAt_93 i (nI a) (nI p) (nI n) (nI w) m = some (0, m') ∧ (∀ q, q ≠ mp i 0 → m' q = m q) ∧ (∀ k, (k < 4 ∨ 7 < k) → m' (mp i 0) k = m (mp i 0) k) ∧
      m' (mp i 0) 4 = nI (if w = 0 then c + 1 else c) ∧ m' (mp i 0) 5 = (if w = 0 ∧ c = 0 then nI a else m (mp i 0) 5) ∧ m' (mp i 0) 6 = (if w = 0 ∧ c = 0 then nI p else m (mp i 0) 6) ∧ m' (mp i 0) 7 = (if w = 0 ∧ c = 0 then nI n else m (mp i 0) 7) := by
  unfold fX4_lookAt_93
  by_cases w0 : w = 0
  · subst w0
    rw [if_pos (show nI 0 ≤ 0 by decide), hf]
    by_cases c0 : c = 0
    · subst c0
      rw [if_pos (show nI 0 = 0 from rfl), lt_v, lt_v, lt_v]
      unfold fX4_lookAt_121
      rw [lt_v]
      refine ⟨_, rfl, fun q hq => ?_, fun k hk => ?_, ?_, ?_, ?_, ?_⟩
      · rw [up_row hq, up_row hq, up_row hq, up_row hq]
      · rw [up_ne (Or.inr (by omega)), up_ne (Or.inr (by omega)), up_ne (Or.inr (by omega)), up_ne (Or.inr (by omega))]
      · simp [up_app, hf]; rfl
      · simp [up_app]
      · simp [up_app]
      · simp [up_app]
    · rw [if_neg (nI_ne0 (by omega) (by omega))]
      unfold fX4_lookAt_121
      rw [lt_v, hf, p1]
      refine ⟨_, rfl, fun q hq => up_row hq, fun k hk => up_ne (Or.inr (by omega)), ?_, ?_, ?_, ?_⟩
      · simp [up_app]
      · simp [up_app, c0]
      · simp [up_app, c0]
      · simp [up_app, c0]
  · rw [if_neg (nI_nle (by omega) (by omega))]
    exact ⟨m, rfl, fun _ _ => rfl, fun _ _ => rfl, by rw [if_neg w0]; exact hf, by rw [if_neg (fun z => w0 z.1)], by rw [if_neg (fun z => w0 z.1)], by rw [if_neg (fun z => w0 z.1)]⟩
