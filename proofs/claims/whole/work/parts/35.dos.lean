/-! one change of the gym, in a memory and in the row -/
theorem u_app {f : Nat → Int32} {k j : Nat} {v : Int32} : upd f k v j = if j = k then v else f j := rfl
section UPG
variable {i : Nat} {m : Mm} {s : Nat → Int32} {v : Int32}
theorem GymIs.up_of (h : GymIs i m s) {w o : Nat} (hw : w < 5) (ho : o < 6) : GymIs i (up m (gp i (2 + w)) o v) (upd s (8 + 5 * o + w) v) := by
  obtain ⟨⟨a, b, c, d, f⟩, h2, h3, h4, h5⟩ := h
  have n0 : gp i 0 ≠ gp i (2 + w) := gp_ne (by omega)
  refine ⟨⟨?_, ?_, ?_, ?_, ?_⟩, fun w' hw' o' ho' => ?_, fun u hu => ?_, fun k hk => ?_, fun k hk => ?_⟩
  · rw [up_row n0, pk_un (by omega)]; exact a
  · rw [up_row n0, pk_un (by omega)]; exact b
  · rw [up_row n0, pk_un (by omega)]; exact c
  · rw [up_row n0, pk_un (by omega)]; exact d
  · rw [up_row n0, pk_un (by omega)]; exact f
  · by_cases e : w' = w ∧ o' = o
    · obtain ⟨rfl, rfl⟩ := e; rw [up_at, pk_us]
    · rw [up_ne (by by_cases e1 : w' = w
                    · exact Or.inr (fun e2 => e ⟨e1, e2⟩)
                    · exact Or.inl (gp_ne (by omega))), pk_un (by omega)]
      exact h2 w' hw' o' ho'
  · rw [up_row (gp_ne (by omega)), pk_un (by omega)]; exact h3 u hu
  · rw [up_row (gp_ne (by omega)), pk_un (by omega)]; exact h4 k hk
  · rw [up_row (gp_ne (by omega)), pk_un (by omega)]; exact h5 k hk
theorem GymIs.up_tired (h : GymIs i m s) {u : Nat} (hu : u < 3) : GymIs i (up m (gp i 10) u v) (upd s (38 + u) v) := by
  obtain ⟨⟨a, b, c, d, f⟩, h2, h3, h4, h5⟩ := h
  have n0 : gp i 0 ≠ gp i 10 := gp_ne (by decide)
  refine ⟨⟨?_, ?_, ?_, ?_, ?_⟩, fun w' hw' o' ho' => ?_, fun u' hu' => ?_, fun k hk => ?_, fun k hk => ?_⟩
  · rw [up_row n0, pk_un (by omega)]; exact a
  · rw [up_row n0, pk_un (by omega)]; exact b
  · rw [up_row n0, pk_un (by omega)]; exact c
  · rw [up_row n0, pk_un (by omega)]; exact d
  · rw [up_row n0, pk_un (by omega)]; exact f
  · rw [up_row (gp_ne (by omega)), pk_un (by omega)]; exact h2 w' hw' o' ho'
  · by_cases e : u' = u
    · subst e; rw [up_at, pk_us]
    · rw [up_ne (Or.inr e), pk_un (by omega)]; exact h3 u' hu'
  · rw [up_row (gp_ne (by omega)), pk_un (by omega)]; exact h4 k hk
  · rw [up_row (gp_ne (by omega)), pk_un (by omega)]; exact h5 k hk
theorem GymIs.up_load (h : GymIs i m s) {u : Nat} (hu : u < 6) : GymIs i (up m (gp i 8) u v) (upd s (41 + u) v) := by
  obtain ⟨⟨a, b, c, d, f⟩, h2, h3, h4, h5⟩ := h
  have n0 : gp i 0 ≠ gp i 8 := gp_ne (by decide)
  refine ⟨⟨?_, ?_, ?_, ?_, ?_⟩, fun w' hw' o' ho' => ?_, fun u' hu' => ?_, fun k hk => ?_, fun k hk => ?_⟩
  · rw [up_row n0, pk_un (by omega)]; exact a
  · rw [up_row n0, pk_un (by omega)]; exact b
  · rw [up_row n0, pk_un (by omega)]; exact c
  · rw [up_row n0, pk_un (by omega)]; exact d
  · rw [up_row n0, pk_un (by omega)]; exact f
  · rw [up_row (gp_ne (by omega)), pk_un (by omega)]; exact h2 w' hw' o' ho'
  · rw [up_row (gp_ne (by omega)), pk_un (by omega)]; exact h3 u' hu'
  · by_cases e : k = u
    · subst e; rw [up_at, pk_us]
    · rw [up_ne (Or.inr e), pk_un (by omega)]; exact h4 k hk
  · rw [up_row (gp_ne (by omega)), pk_un (by omega)]; exact h5 k hk
theorem GymIs.up_taken (h : GymIs i m s) {u : Nat} (hu : u < 6) : GymIs i (up m (gp i 9) u v) (upd s (47 + u) v) := by
  obtain ⟨⟨a, b, c, d, f⟩, h2, h3, h4, h5⟩ := h
  have n0 : gp i 0 ≠ gp i 9 := gp_ne (by decide)
  refine ⟨⟨?_, ?_, ?_, ?_, ?_⟩, fun w' hw' o' ho' => ?_, fun u' hu' => ?_, fun k hk => ?_, fun k hk => ?_⟩
  · rw [up_row n0, pk_un (by omega)]; exact a
  · rw [up_row n0, pk_un (by omega)]; exact b
  · rw [up_row n0, pk_un (by omega)]; exact c
  · rw [up_row n0, pk_un (by omega)]; exact d
  · rw [up_row n0, pk_un (by omega)]; exact f
  · rw [up_row (gp_ne (by omega)), pk_un (by omega)]; exact h2 w' hw' o' ho'
  · rw [up_row (gp_ne (by omega)), pk_un (by omega)]; exact h3 u' hu'
  · rw [up_row (gp_ne (by omega)), pk_un (by omega)]; exact h4 k hk
  · by_cases e : k = u
    · subst e; rw [up_at, pk_us]
    · rw [up_ne (Or.inr e), pk_un (by omega)]; exact h5 k hk
/-- the fields: which slot of the row each one is -/
def fldS (k : Nat) : Nat := if k = 3 then 0 else k - 5
theorem GymIs.up_fld (h : GymIs i m s) {k : Nat} (hk : k = 3 ∨ k = 6 ∨ k = 7 ∨ k = 8 ∨ k = 9) : GymIs i (up m (gp i 0) k v) (upd s (fldS k) v) := by
  obtain ⟨⟨a, b, c, d, f⟩, h2, h3, h4, h5⟩ := h
  refine ⟨⟨?_, ?_, ?_, ?_, ?_⟩, fun w' hw' o' ho' => ?_, fun u' hu' => ?_, fun k' hk' => ?_, fun k' hk' => ?_⟩
  · rcases hk with rfl | rfl | rfl | rfl | rfl <;> simp [up_app, fldS, u_app, a]
  · rcases hk with rfl | rfl | rfl | rfl | rfl <;> simp [up_app, fldS, u_app, b]
  · rcases hk with rfl | rfl | rfl | rfl | rfl <;> simp [up_app, fldS, u_app, c]
  · rcases hk with rfl | rfl | rfl | rfl | rfl <;> simp [up_app, fldS, u_app, d]
  · rcases hk with rfl | rfl | rfl | rfl | rfl <;> simp [up_app, fldS, u_app, f]
  · rw [up_row (gp_ne (by omega)), pk_un (by unfold fldS; split <;> omega)]; exact h2 w' hw' o' ho'
  · rw [up_row (gp_ne (by omega)), pk_un (by unfold fldS; split <;> omega)]; exact h3 u' hu'
  · rw [up_row (gp_ne (by omega)), pk_un (by unfold fldS; split <;> omega)]; exact h4 k' hk'
  · rw [up_row (gp_ne (by omega)), pk_un (by unfold fldS; split <;> omega)]; exact h5 k' hk'
theorem GymIs.up_done (h : GymIs i m s) : GymIs i (up m (gp i 0) 10 v) s := by
  obtain ⟨⟨a, b, c, d, f⟩, h2, h3, h4, h5⟩ := h
  refine ⟨⟨?_, ?_, ?_, ?_, ?_⟩, fun w' hw' o' ho' => ?_, fun u' hu' => ?_, fun k' hk' => ?_, fun k' hk' => ?_⟩
  · rw [up_ne (Or.inr (by decide))]; exact a
  · rw [up_ne (Or.inr (by decide))]; exact b
  · rw [up_ne (Or.inr (by decide))]; exact c
  · rw [up_ne (Or.inr (by decide))]; exact d
  · rw [up_ne (Or.inr (by decide))]; exact f
  · rw [up_row (gp_ne (by omega))]; exact h2 w' hw' o' ho'
  · rw [up_row (gp_ne (by omega))]; exact h3 u' hu'
  · rw [up_row (gp_ne (by omega))]; exact h4 k' hk'
  · rw [up_row (gp_ne (by omega))]; exact h5 k' hk'
end UPG
/-! a set is done -/
def gainS (s : Nat → Int32) (o : Nat) : Int32 := gainsK (ix (s (8 + 5 * o))) (s (8 + 5 * o + 2)) (s 1)
def muS (s : Nat → Int32) (o : Nat) : Nat := ix (s (8 + 5 * o + 3))
def maS (s : Nat → Int32) (o : Nat) : Nat := ix (s (8 + 5 * o + 1))
def apartN (l w : Nat) : Nat := if w ≤ l then l - w else w - l
def rawS (s : Nat → Int32) (o : Nat) : Int32 := gainS s o - s (38 + muS s o) - nI (apartN (ix (s (41 + maS s o))) (ix (s (8 + 5 * o + 2))) / 3)
def fullS (s : Nat → Int32) (o : Nat) : Int32 := if 0 < rawS s o then rawS s o else 0
def worthDo (s : Nat → Int32) (o : Nat) (e : Bool) : Int32 := if e = true then fullS s o / 2 else fullS s o
def tiredS (s : Nat → Int32) (o : Nat) (e : Bool) : Int32 :=
  if s (38 + muS s o) + (if e = true then 1 else tiresK (ix (s (8 + 5 * o)))) < 9 then s (38 + muS s o) + (if e = true then 1 else tiresK (ix (s (8 + 5 * o)))) else 9
def doS (s : Nat → Int32) (o : Nat) (e : Bool) : Nat → Int32 := upd (upd (upd s (38 + muS s o) (tiredS s o e)) (8 + 5 * o + 4) (s (8 + 5 * o + 4) - 1)) (41 + maS s o) (s (8 + 5 * o + 2))
theorem abs_n : ∀ l, l < 10 → ∀ w, w < 10 → (if 0 ≤ nI l - nI w then nI l - nI w else 0 - (nI l - nI w)) = nI (apartN l w) := by decide +kernel
theorem apart_n : ∀ l, l < 10 → ∀ w, w < 10 → (if nI w ≤ nI l then nI l - nI w else nI w - nI l) = nI (apartN l w) := by decide +kernel
theorem apart_lt {l w : Nat} (hl : l < 10) (hw : w < 10) : apartN l w < 10 := by unfold apartN; split <;> omega
theorem doSet_c {i o : Nat} {m : Mm} {s : Nat → Int32} {e : Bool} {x : Int32} (hG : GymIs i m s) (ho : o < 6) (hK : SetOk s o) (hl : ∀ k, k < 6 → Bd 0 9 (s (41 + k))) (hx : (x = 0) = (e = false)) :
    ∃ m', fX1_doSet i (nI o) x m = some (worthDo s o e, m') ∧ GymIs i m' (doS s o e) ∧ Fr (gymP i) m m' ∧ m' (gp i 0) 10 = nI o := by
  have hK0 := hK
  obtain ⟨⟨k, k1, k5, hk⟩, ⟨a, -, a5, ha⟩, ⟨w, -, w9, hw⟩, ⟨u, -, u2, hu⟩, -⟩ := hK
  obtain ⟨l, -, l9, hl9⟩ := hl a (by omega)
  have ema : maS s o = a := by unfold maS; rw [ha, ix_n (by omega)]
  have emu : muS s o = u := by unfold muS; rw [hu, ix_n (by omega)]
  have er : rawS s o = gainsK k (nI w) (s 1) - s (38 + u) - nI (apartN l w / 3) := by
    unfold rawS gainS; rw [ema, emu, hk, hw, hl9, ix_n (by omega), ix_n (by omega), ix_n (by omega)]
  let t : Int32 := if e = true then 1 else tiresK k
  have et : tiredS s o e = if s (38 + u) + t < 9 then s (38 + u) + t else 9 := by
    unfold tiredS; rw [emu, hk, ix_n (by omega)]
  let m1 := up m (gp i 10) u (tiredS s o e)
  have G1 : GymIs i m1 _ := hG.up_tired (v := tiredS s o e) (u := u) (by omega)
  let m2 := up m1 (gp i 6) o (s (8 + 5 * o + 4) - 1)
  have G2 : GymIs i m2 _ := G1.up_of (v := s (8 + 5 * o + 4) - 1) (w := 4) (by omega) ho
  let m3 := up m2 (gp i 8) a (nI w)
  have G3 : GymIs i m3 _ := G2.up_load (v := nI w) (u := a) (by omega)
  have F3 : Fr (gymP i) m m3 := ((Fr.rf.up (gymP_in (by decide))).up (gymP_in (by decide))).up (gymP_in (by decide))
  let m4 := up m3 (gp i 0) 10 (nI o)
  have fin : fX1_doSet_120 i (nI o) x (nI a) (fullS s o) t (s (38 + u)) 9 (nI u) m = some (worthDo s o e, m4) := by
    unfold fX1_doSet_120
    rw [gx_n (by omega) (by decide), ix_n (by omega), ← et]
    show lt m1 _ = _
    rw [lt_v, gx_n ho (by decide), ix_n (by omega), g_left G1 ho, pk_un (by omega)]
    show lt m2 _ = _
    rw [lt_v, gx_n (by omega) (by decide), ix_n (by omega), g_wt G2 ho, pk_un (by omega), pk_un (by omega), hw]
    show lt m3 _ = _
    rw [lt_v]
    show lt m4 _ = _
    rw [lt_v]
    unfold worthDo
    cases e
    · rw [if_pos (hx.mpr rfl)]; rfl
    · rw [if_neg (fun q => by rw [hx] at q; exact absurd q (by decide))]; rfl
  refine ⟨m4, ?_, ?_, F3.up (gymP_in (by decide)), up_at⟩
  · unfold fX1_doSet
    rw [gx_n ho (by decide), ix_n (by omega), g_mach hG ho, g_mus hG ho, ha, hu, lt_v, lt_v, gx_n (by omega) (by decide), ix_n (by omega), ix_n (by omega), hG.2.2.2.1 a (by omega), g_wt hG ho, hl9, hw, abs_n l (by omega) w (by omega), lt_v,
      g_kind hG ho, hk, gx_n (by omega) (by decide), ix_n (by omega), v_gains_c k1 k5, bd_s, gx_n (by omega) (by decide), hG.2.2.1 u (by omega), show (3 : Int32) = nI 3 from rfl, pk_div (by have := apart_lt (l := l) (w := w) (by omega) (by omega); omega) (by decide) (by decide), hG.1.2.1, ← er, lt_v]
    show (if x = 0 then _ else _) = _
    cases e
    · rw [if_pos (hx.mpr rfl), tires_c hG ho hK0, bd_s, hk, ix_n (by omega)]
      exact fin
    · rw [if_neg (fun q => by rw [hx] at q; exact absurd q (by decide))]
      exact fin
  · have := G3.up_done (v := nI o)
    unfold doS
    rw [emu, ema, hw]
    exact this
theorem max0 {α : Type} {x : Int32} (f : Int32 → α) : (if 0 ≤ x then f x else f 0) = f (if 0 < x then x else 0) := by
  by_cases h : 0 < x
  · rw [if_pos h, if_pos (Int32.le_of_lt h)]
  · rw [if_neg h]
    by_cases h0 : 0 ≤ x
    · rw [if_pos h0, Int32.le_antisymm (Int32.not_lt.mp h) h0]
    · rw [if_neg h0]
theorem doesBy_r {o : Nat} {m : Mm} {e : Bool} {x : Int32} (ho : o < 6) (hK : SetOk (m 1) o) (hl : ∀ k, k < 6 → Bd 0 9 (m 1 (41 + k))) (hx : (x = 0) = (e = false)) :
    fX12_doesBy (nI o) x m = some (worthDo (m 1) o e, up (upA m 1 (doS (m 1) o e)) 0 13 (nI o)) := by
  have hK0 := hK
  obtain ⟨⟨k, k1, k5, hk⟩, ⟨a, -, a5, ha⟩, ⟨w, -, w9, hw⟩, ⟨u, -, u2, hu⟩, -⟩ := hK
  obtain ⟨l, -, l9, hl9⟩ := hl a (by omega)
  have ema : maS (m 1) o = a := by unfold maS; rw [ha, ix_n (by omega)]
  have emu : muS (m 1) o = u := by unfold muS; rw [hu, ix_n (by omega)]
  have er : rawS (m 1) o = gainsK k (nI w) (m 1 1) - m 1 (38 + u) - nI (apartN l w / 3) := by
    unfold rawS gainS; rw [ema, emu, hk, hw, hl9, ix_n (by omega), ix_n (by omega), ix_n (by omega)]
  let t : Int32 := if e = true then 1 else tiresK k
  have et : tiredS (m 1) o e = if m 1 (38 + u) + t < 9 then m 1 (38 + u) + t else 9 := by
    unfold tiredS; rw [emu, hk, ix_n (by omega)]
  have least : ∀ v m, fX12_least 9 v m = some (if v < 9 then v else 9, m) := by
    intro v m
    unfold fX12_least
    by_cases c : v < 9
    · rw [if_pos c, if_pos (Int32.le_of_lt c)]
    · rw [if_neg c]
      by_cases c1 : v ≤ 9
      · rw [if_pos c1, Int32.le_antisymm c1 (Int32.not_lt.mp c)]
      · rw [if_neg c1]
  let m1 := up m 1 (38 + u) (tiredS (m 1) o e)
  let m2 := up m1 1 (8 + 5 * o + 4) (m 1 (8 + 5 * o + 4) - 1)
  let m3 := up m2 1 (41 + a) (nI w)
  let m4 := up m3 0 13 (nI o)
  have fin : fX12_doesBy_95 (nI o) x (nI (41 + a)) (fullS (m 1) o) t (m 1 (38 + u)) 9 (nI (38 + u)) m = some (worthDo (m 1) o e, m4) := by
    unfold fX12_doesBy_95
    rw [least, bd_s, ← et, gx_n (by omega) (by decide), ix_n (by omega)]
    show lt m1 _ = _
    rw [lt_v, e_one, p4, gx_n (by omega) (by decide), ix_n (by omega), show m1 1 (8 + 5 * o + 4) = m 1 (8 + 5 * o + 4) from up_ne (Or.inr (by omega))]
    show lt m2 _ = _
    rw [lt_v, its2 ho, bd_s, gx_n (by omega) (by decide), ix_n (by omega), show m2 1 (8 + 5 * o + 2) = nI w from ((up_ne (Or.inr (by omega))).trans (up_ne (Or.inr (by omega)))).trans hw]
    show lt m3 _ = _
    rw [lt_v]
    show lt m4 _ = _
    rw [lt_v]
    unfold worthDo
    cases e
    · rw [if_pos (hx.mpr rfl)]; rfl
    · rw [if_neg (fun q => by rw [hx] at q; exact absurd q (by decide))]; rfl
  have hm4 : m4 = up (upA m 1 (doS (m 1) o e)) 0 13 (nI o) := by
    unfold doS
    rw [emu, ema, hw]
    show up (upA (upA (upA m 1 _) 1 _) 1 _) 0 13 _ = _
    congr 1
    funext q
    by_cases hq : q = 1
    · subst hq
      have e2 : m2 1 = upd (m1 1) (8 + 5 * o + 4) (m 1 (8 + 5 * o + 4) - 1) := upA_same
      have e1 : m1 1 = upd (m 1) (38 + u) (tiredS (m 1) o e) := upA_same
      rw [upA_same, upA_same, e2, e1]
    · rw [upA_ne hq, upA_ne hq, upA_ne hq, upA_ne hq]
  rw [← hm4, ← fin]
  unfold fX12_doesBy
  rw [its1 ho, bd_s, lt_v, its3 ho, bd_s, lt_v, gains_r ho hK0, bd_s, ha, hu, show (41 : Int32) = nI 41 from rfl, show (38 : Int32) = nI 38 from rfl, nI_add, nI_add, gx_n (by omega) (by decide), gx_n (by omega) (by decide), its2 ho, bd_s, ix_n (by omega), ix_n (by omega), hl9, hw, hk, ix_n (by omega)]
  have hap : fX12_apart (nI l) (nI w) m = some (nI (apartN l w), m) := by
    rw [← apart_n l (by omega) w (by omega)]
    unfold fX12_apart
    split <;> rfl
  rw [hap, bd_s, show (3 : Int32) = nI 3 from rfl, pk_div (by have := apart_lt (l := l) (w := w) (by omega) (by omega); omega) (by decide) (by decide), ← er, lt_v, max0 (fun z => fX12_doesBy_65 (nI o) x (nI (41 + a)) (nI (38 + u)) z m)]
  show fX12_doesBy_65 (nI o) x (nI (41 + a)) (nI (38 + u)) (fullS (m 1) o) m = _
  unfold fX12_doesBy_65
  rw [gx_n (by omega) (by decide), ix_n (by omega)]
  cases e
  · rw [if_pos (hx.mpr rfl), tires_r ho hK0, bd_s, hk, ix_n (by omega)]
    rfl
  · rw [if_neg (fun q => by rw [hx] at q; exact absurd q (by decide))]
    rfl
