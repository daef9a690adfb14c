def fitX (s : Nat → Int32) (k : Int32) (x : Nat) : Bool := allS s k (x / 16) (x / 4 % 4 + 1) (x % 4 + 1) 0 (ix (s 6))
theorem isFit_r {m : Mm} {R x : Nat} {k : Int32} (h6 : m 1 6 = nI R) (hR : R ≤ 6) (hx : x < 256) : fX12_isFit (nI x) k m = some (b2 (fitX (m 1) k x), m) := by
  have h := fit27_r (x2 := k) (m := m) (a := x / 16) (p := x / 4 % 4 + 1) (n := x % 4 + 1) (by omega) (by omega) (by omega) h6 hR R 0 FL true (by omega) (by unfold FL; omega)
  unfold fX12_isFit fitX
  rw [show (16 : Int32) = nI 16 from rfl, show (4 : Int32) = nI 4 from rfl, pk_div (by omega) (by decide) (by decide), pk_div (by omega) (by decide) (by decide), pk_rem (by omega) (by decide) (by decide), p1, lt_v, lt_v, lt_v, h6, ix_n (by omega)]
  have e2 : nI x - nI (x / 4) * nI 4 = nI (x % 4) := by
    rw [← pk_div (by omega) (by decide) (by decide)]
    exact pk_rem (by omega) (by decide) (by decide)
  rw [e2, p1]
  exact h
def ffF (s : Nat → Int32) (k : Int32) : Nat → Nat → Nat → Int32 → Nat × Int32
  | 0, _, c, f => (c, f)
  | d + 1, x, c, f => if fitX s k x = true then ffF s k d (x + 1) (c + 1) (if c = 0 then nI x else f) else ffF s k d (x + 1) c f
theorem finds_r {R : Nat} {k : Int32} (hR : R ≤ 6) : ∀ (d x q c : Nat) (f : Int32) (m : Mm), x + d = 256 → d < q → c ≤ x → m 1 6 = nI R → m 0 23 = nI c → m 0 24 = f → ∃ m', fX12_findsFits_13 q k (nI x) m = some (0, m') ∧ m' 0 23 = nI (ffF (m 1) k d x c f).1 ∧ m' 0 24 = (ffF (m 1) k d x c f).2 ∧ (∀ q, q ≠ 0 → m' q = m q) ∧ (∀ j, j ≠ 23 → j ≠ 24 → m' 0 j = m 0 j) := by
  intro d
  induction d with
  | zero =>
    intro x q c f m hd hq hc h6 h23 h24
    obtain ⟨q, rfl⟩ : ∃ z, q = z + 1 := ⟨q - 1, by omega⟩
    rw [fX12_findsFits_13, if_pos (show (256 : Int32) ≤ nI x from nI_le (a := 256) (by omega) (by omega))]
    exact ⟨m, rfl, h23, h24, fun _ _ => rfl, fun _ _ _ => rfl⟩
  | succ d ih =>
    intro x q c f m hd hq hc h6 h23 h24
    obtain ⟨q, rfl⟩ : ∃ z, q = z + 1 := ⟨q - 1, by omega⟩
    rw [fX12_findsFits_13, if_neg (show ¬ (256 : Int32) ≤ nI x from nI_ge (b := 256) (by omega) (by decide)), isFit_r h6 hR (by omega), bd_s, ffF]
    cases hf : fitX (m 1) k x
    · rw [if_pos b2f, lt_v, p1, if_neg (by decide)]
      exact ih (x + 1) q c f m (by omega) (by omega) (by omega) h6 h23 h24
    · rw [if_neg b2t, if_pos rfl]
      let g : Int32 := if c = 0 then nI x else f
      let m1 := up (up m 0 24 g) 0 23 (nI (c + 1))
      have m11 : m1 1 = m 1 := (up_row (by decide)).trans (up_row (by decide))
      have h45 : ∀ s0, s0 = g → fX12_findsFits_45 (fun x1 x2 m => fX12_findsFits_13 q x1 x2 m) k (nI x) s0 m = fX12_findsFits_13 q k (nI (x + 1)) m1 := by
        intro s0 e
        subst e
        unfold fX12_findsFits_45
        rw [lt_v, up_ne (Or.inr (by decide)), h23, p1, lt_v, lt_v, p1]
      have e9 : (if m 0 23 = 0 then fX12_findsFits_45 (fun x1 x2 m => fX12_findsFits_13 q x1 x2 m) k (nI x) (nI x) m else fX12_findsFits_45 (fun x1 x2 m => fX12_findsFits_13 q x1 x2 m) k (nI x) (m 0 24) m) = fX12_findsFits_13 q k (nI (x + 1)) m1 := by
        rw [h23]
        by_cases c0 : c = 0
        · rw [if_pos (show nI c = 0 by rw [c0]; rfl)]
          exact h45 _ (show nI x = g from (if_pos c0).symm)
        · rw [if_neg (nI_ne0 (by omega) (by omega)), h24]
          exact h45 _ (show f = g from (if_neg c0).symm)
      obtain ⟨m2, q2, a1, a2, a3, a4⟩ := ih (x + 1) q (c + 1) g m1 (by omega) (by omega) (by omega) (by rw [m11]; exact h6) up_at ((up_ne (Or.inr (by decide))).trans up_at)
      rw [m11] at a1 a2
      exact ⟨m2, by rw [e9]; exact q2, a1, a2, fun q hq => (a3 q hq).trans ((up_row hq).trans (up_row hq)), fun j j1 j2 => (a4 j j1 j2).trans ((up_ne (Or.inr j1)).trans (up_ne (Or.inr j2)))⟩
