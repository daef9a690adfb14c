/-- the class's men after one man was looked at -/
theorem look93_c {i : Nat} {a p n w c : Nat} {m : Mm} (hf : m (mp i 0) 4 = nI c) (hc : c < 300) (hw : w < 10) :
    ∃ m', fX4_lookAt_93 i (nI a) (nI p) (nI n) (nI w) m = some (0, m') ∧ (∀ q, q ≠ mp i 0 → m' q = m q) ∧ (∀ k, (k < 4 ∨ 7 < k) → m' (mp i 0) k = m (mp i 0) k) ∧
      m' (mp i 0) 4 = nI (if w = 0 then c + 1 else c) ∧ m' (mp i 0) 5 = (if w = 0 ∧ c = 0 then nI a else m (mp i 0) 5) ∧ m' (mp i 0) 6 = (if w = 0 ∧ c = 0 then nI p else m (mp i 0) 6) ∧ m' (mp i 0) 7 = (if w = 0 ∧ c = 0 then nI n else m (mp i 0) 7) := by
  unfold fX4_lookAt_93
  by_cases w0 : w = 0
  · subst w0
    rw [if_pos (show nI 0 ≤ 0 by decide), hf]
    by_cases c0 : c = 0
    · subst c0
      rw [if_pos (show nI 0 = 0 from rfl), lt_v, lt_v, lt_v]
      unfold fX4_lookAt_121
      rw [lt_v]
      refine ⟨_, rfl, fun q hq => ?_, fun k hk => ?_, ?_, ?_, ?_, ?_⟩
      · rw [up_row hq, up_row hq, up_row hq, up_row hq]
      · rw [up_ne (Or.inr (by omega)), up_ne (Or.inr (by omega)), up_ne (Or.inr (by omega)), up_ne (Or.inr (by omega))]
      · simp [up_app, hf]; rfl
      · simp [up_app]
      · simp [up_app]
      · simp [up_app]
    · rw [if_neg (nI_ne0 (by omega) (by omega))]
      unfold fX4_lookAt_121
      rw [lt_v, hf, p1]
      refine ⟨_, rfl, fun q hq => up_row hq, fun k hk => up_ne (Or.inr (by omega)), ?_, ?_, ?_, ?_⟩
      · simp [up_app]
      · simp [up_app, c0]
      · simp [up_app, c0]
      · simp [up_app, c0]
  · rw [if_neg (nI_nle (by omega) (by omega))]
    exact ⟨m, rfl, fun _ _ => rfl, fun _ _ => rfl, by rw [if_neg w0]; exact hf, by rw [if_neg (fun z => w0 z.1)], by rw [if_neg (fun z => w0 z.1)], by rw [if_neg (fun z => w0 z.1)]⟩
theorem wrF_le {s : Nat → Int32} {a p n : Nat} : ∀ (d r w : Nat) (h : Int32), (wrF s a p n d r w h).1 ≤ w + d := by
  intro d
  induction d with
  | zero => intro r w h; exact Nat.le_refl _
  | succ d ih =>
    intro r w h
    rw [wrF]
    split
    · have := ih (r + 1) w h; omega
    · have := ih (r + 1) (w + 1) (nI r); omega
theorem lookAt_c {i : Nat} {s : Nat → Int32} {a p n R c : Nat} {m : Mm} (hM : MenIs i m s) (h6 : s 6 = nI R) (hR : R ≤ 6) (ha : a < 16) (hp : p ≤ 4) (hn : n ≤ 4) (hf : m (mp i 0) 4 = nI c) (hc : c < 300) :
    ∃ m', fX4_lookAt i (nI a) (nI p) (nI n) m = some (0, m') ∧ (∀ q, q ≠ mp i 0 → m' q = m q) ∧ (∀ k, (k < 4 ∨ 8 < k) → m' (mp i 0) k = m (mp i 0) k) ∧
      m' (mp i 0) 4 = nI (if (wrF s a p n R 0 0 6).1 = 0 then c + 1 else c) ∧
      m' (mp i 0) 5 = (if (wrF s a p n R 0 0 6).1 = 0 ∧ c = 0 then nI a else m (mp i 0) 5) ∧ m' (mp i 0) 6 = (if (wrF s a p n R 0 0 6).1 = 0 ∧ c = 0 then nI p else m (mp i 0) 6) ∧ m' (mp i 0) 7 = (if (wrF s a p n R 0 0 6).1 = 0 ∧ c = 0 then nI n else m (mp i 0) 7) ∧
      m' (mp i 0) 8 = (if (wrF s a p n R 0 0 6).1 = 1 then (if (wrF s a p n R 0 0 6).2 < m (mp i 0) 8 then (wrF s a p n R 0 0 6).2 else m (mp i 0) 8) else m (mp i 0) 8) := by
  have hw := wrF_le (s := s) (a := a) (p := p) (n := n) R 0 0 6
  have e := look10_c hM h6 hR ha hp hn R 0 FL 0 6 (by omega) (by unfold FL; omega)
  have e' : fX4_lookAt i (nI a) (nI p) (nI n) m = _ := e
  rw [e']
  generalize hW : (wrF s a p n R 0 0 6).1 = w at hw
  generalize (wrF s a p n R 0 0 6).2 = h
  by_cases w1 : w = 1
  · subst w1
    rw [if_pos (show nI 1 = 1 from rfl), lt_v]
    obtain ⟨m', q, f1, f2, f4, f5, f6, f7⟩ := look93_c (a := a) (p := p) (n := n) (w := 1) (m := up m (mp i 0) 8 (if h < m (mp i 0) 8 then h else m (mp i 0) 8)) (by rw [up_ne (Or.inr (by decide))]; exact hf) hc (by decide)
    refine ⟨m', q, fun q hq => (f1 q hq).trans (up_row hq), fun k hk => (f2 k (by omega)).trans (up_ne (Or.inr (by omega))), f4, ?_, ?_, ?_, ?_⟩
    · rw [f5, up_ne (Or.inr (by decide))]
    · rw [f6, up_ne (Or.inr (by decide))]
    · rw [f7, up_ne (Or.inr (by decide))]
    · rw [f2 8 (by omega), up_at, if_pos rfl]
  · rw [if_neg (show ¬ nI w = 1 from fun z => w1 ((nI_eq (a := w) (b := 1) (by omega) (by decide)).mp z))]
    obtain ⟨m', q, f1, f2, f4, f5, f6, f7⟩ := look93_c (a := a) (p := p) (n := n) (w := w) (m := m) hf hc (by omega)
    exact ⟨m', q, f1, fun k hk => f2 k (by omega), f4, f5, f6, f7, by rw [f2 8 (by omega), if_neg w1]⟩
