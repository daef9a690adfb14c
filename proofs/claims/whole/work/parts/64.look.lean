/-- of one man: how many reports are wrong, and the last of them -/
def wrF (s : Nat → Int32) (a p n : Nat) : Nat → Nat → Nat → Int32 → Nat × Int32
  | 0, _, w, h => (w, h)
  | d + 1, r, w, h => if fitS s a p n r = true then wrF s a p n d (r + 1) w h else wrF s a p n d (r + 1) (w + 1) (nI r)
theorem look10_c {i : Nat} {s : Nat → Int32} {a p n R : Nat} {m : Mm} (hM : MenIs i m s) (h6 : s 6 = nI R) (hR : R ≤ 6) (ha : a < 16) (hp : p ≤ 4) (hn : n ≤ 4) :
    ∀ (d r q w : Nat) (h : Int32), r + d = R → d < q → fX4_lookAt_10 i q (nI a) (nI p) (nI n) (nI w) h (nI r) m =
      (if nI (wrF s a p n d r w h).1 = 1 then lt (up m (mp i 0) 8 (if (wrF s a p n d r w h).2 < m (mp i 0) 8 then (wrF s a p n d r w h).2 else m (mp i 0) 8)) fun m_13 => fX4_lookAt_93 i (nI a) (nI p) (nI n) (nI (wrF s a p n d r w h).1) m_13 else fX4_lookAt_93 i (nI a) (nI p) (nI n) (nI (wrF s a p n d r w h).1) m) := by
  obtain ⟨b0, b⟩ := hM
  intro d
  induction d with
  | zero =>
    intro r q w h hd hq
    obtain ⟨q, rfl⟩ : ∃ z, q = z + 1 := ⟨q - 1, by omega⟩
    rw [fX4_lookAt_10, b0, h6, if_pos (nI_le (by omega) (by omega))]
    rfl
  | succ d ih =>
    intro r q w h hd hq
    obtain ⟨q, rfl⟩ : ∃ z, q = z + 1 := ⟨q - 1, by omega⟩
    obtain ⟨c1, c2, c3⟩ := b r (by omega)
    rw [fX4_lookAt_10, b0, h6, if_neg (nI_ge (by omega) (by omega)), gx_n (by omega) (by decide), ix_n (by omega), c1, sats_c ha hp hn, bd_s, c2, c3, wrF]
    have h61 : fX4_lookAt_61 (fun x1 x2 x3 x4 x5 x6 m => fX4_lookAt_10 i q x1 x2 x3 x4 x5 x6 m) i (nI a) (nI p) (nI n) (nI w) (nI r) m = fX4_lookAt_10 i q (nI a) (nI p) (nI n) (nI (w + 1)) (nI r) (nI (r + 1)) m := by
      unfold fX4_lookAt_61
      rw [lt_v, lt_v, p1, p1]
    have ff : fitS s a p n r = (decide (s (85 + 3 * r + 1) ≤ satS s a p n r) && decide (satS s a p n r ≤ s (85 + 3 * r + 2))) := rfl
    by_cases k1 : satS s a p n r < s (85 + 3 * r + 1)
    · rw [if_pos k1, h61, ff, decide_eq_false (Int32.not_le.mpr k1), Bool.false_and, if_neg (show ¬ false = true by decide)]
      exact ih (r + 1) q (w + 1) (nI r) (by omega) (by omega)
    · rw [if_neg k1, ff, decide_eq_true (Int32.not_lt.mp k1), Bool.true_and]
      by_cases k2 : s (85 + 3 * r + 2) < satS s a p n r
      · rw [if_pos k2, h61, decide_eq_false (Int32.not_le.mpr k2), if_neg (show ¬ false = true by decide)]
        exact ih (r + 1) q (w + 1) (nI r) (by omega) (by omega)
      · rw [if_neg k2, decide_eq_true (Int32.not_lt.mp k2), if_pos rfl, lt_v, p1]
        exact ih (r + 1) q w h (by omega) (by omega)
