theorem rulesCopy_c {i j : Nat} {m : Mm} {s : Nat → Int32} (hi : i < 3) (hj : j < 3) (hij : j ≠ i) (hI : RulesIs j m s) (hR : RulesOk s) : ∃ m', fX8_copy i j m = some (0, m') ∧ RulesIs i m' s ∧ (∀ q, (q < 14 + 10 * i ∨ 14 + 10 * i + 8 ≤ q) → m' q = m q) := by
  obtain ⟨i0, i7, i2, i3⟩ := hI
  obtain ⟨⟨c, -, c8, hc⟩, ⟨st, -, st9, hst⟩, -⟩ := hR
  have hcx : ix (s 5) = c := by rw [hc, ix_n (by omega)]
  have hsx : ix (s 7) = st := by rw [hst, ix_n (by omega)]
  have re : ∀ a b, (rp i a = rp i b) = (a = b) := fun a b => by unfold rp; apply propext; omega
  have ne : ∀ a b, a < 10 → b < 10 → (rp j a = rp i b) = False := fun a b ha hb => by unfold rp; apply propext; exact ⟨fun q => by omega, False.elim⟩
  unfold fX8_copy
  have e1 : ∀ (mm : Mm), mm (rp i 0) 0 = nI c → ∀ {α : Type} (k : Option α), gc (mm (rp i 0) 0) 8 k = k := fun mm h {_} k => by rw [h, gc_n (by omega) (by decide)]
  have e2 : ∀ (mm : Mm), mm (rp i 0) 8 = nI st → ∀ {α : Type} (k : Option α), gc (mm (rp i 0) 8) 200 k = k := fun mm h {_} k => by rw [h, gc_n (by omega) (by decide)]
  rw [lt_v, lt_v]
  rw [e1 _ (by simp [up_app, re, ne, i0, hc]), lt_v, e1 _ (by simp [up_app, upA_app, re, ne, i0, hc]), lt_v, e1 _ (by simp [up_app, upA_app, re, ne, i0, hc]), lt_v, e1 _ (by simp [up_app, upA_app, re, ne, i0, hc]), lt_v,
    e2 _ (by simp [up_app, upA_app, re, ne, i7, hst]), lt_v, e2 _ (by simp [up_app, upA_app, re, ne, i7, hst]), lt_v, e2 _ (by simp [up_app, upA_app, re, ne, i7, hst]), lt_v]
  refine ⟨_, rfl, ⟨?_, ?_, fun r hr => ⟨?_, ?_, ?_, ?_⟩, fun k hk => ?_⟩, fun q hq => ?_⟩
  · simp [up_app, upA_app, re, ne, i0]
  · simp [up_app, upA_app, re, ne, i7]
  · have := (i2 r hr).1
    rw [hcx] at hr
    simp [up_app, upA_app, re, ne, i0, hc, cpy, ix_n (show c < 2 ^ 31 by omega), hr, this]
  · have := (i2 r hr).2.1
    rw [hcx] at hr
    simp [up_app, upA_app, re, ne, i0, hc, cpy, ix_n (show c < 2 ^ 31 by omega), hr, this]
  · have := (i2 r hr).2.2.1
    rw [hcx] at hr
    simp [up_app, upA_app, re, ne, i0, hc, cpy, ix_n (show c < 2 ^ 31 by omega), hr, this]
  · have := (i2 r hr).2.2.2
    rw [hcx] at hr
    simp [up_app, upA_app, re, ne, i0, hc, cpy, ix_n (show c < 2 ^ 31 by omega), hr, this]
  · have := i3 k hk
    rw [hsx] at hk
    simp [up_app, upA_app, re, ne, i7, hst, cpy, ix_n (show st < 2 ^ 31 by omega), hk]
    exact this
  · have nq : ∀ b, b < 8 → q ≠ rp i b := fun b hb => by unfold rp; omega
    rw [upA_ne (nq _ (by decide)), upA_ne (nq _ (by decide)), upA_ne (nq _ (by decide)), upA_ne (nq _ (by decide)), upA_ne (nq _ (by decide)), upA_ne (nq _ (by decide)), upA_ne (nq _ (by decide)), up_row (nq _ (by decide)), up_row (nq _ (by decide))]
theorem menCopy_c {i j : Nat} {m : Mm} {s : Nat → Int32} (hi : i < 2) (hj : j < 2) (hij : j ≠ i) (hM : MenIs j m s) : ∃ m', fX4_copy i j m = some (0, m') ∧ MenIs i m' s ∧ (∀ q, (q < 44 + 4 * i ∨ 44 + 4 * i + 4 ≤ q) → m' q = m q) := by
  obtain ⟨a, b⟩ := hM
  have re : ∀ a b, (mp i a = mp i b) = (a = b) := fun a b => by unfold mp; apply propext; omega
  have ne : ∀ a b, a < 4 → b < 4 → (mp j a = mp i b) = False := fun a b ha hb => by unfold mp; apply propext; exact ⟨fun q => by omega, False.elim⟩
  unfold fX4_copy
  rw [lt_v, lt_v, lt_v, lt_v]
  refine ⟨_, rfl, ⟨?_, fun r hr => ?_⟩, fun q hq => ?_⟩
  · simp [up_app, upA_app, re, ne, a]
  · obtain ⟨b1, b2, b3⟩ := b r hr
    simp [up_app, upA_app, re, ne, cpy, hr, b1, b2, b3]
  · have nq : ∀ b, b < 4 → q ≠ mp i b := fun b hb => by unfold mp; omega
    rw [up_row (nq _ (by decide)), upA_ne (nq _ (by decide)), upA_ne (nq _ (by decide)), upA_ne (nq _ (by decide))]
theorem keepR_loop {a b : Nat} (hab : a ≠ b) {F : Nat → Int32 → Mm → Option (Int32 × Mm)} {E : Mm → Option (Int32 × Mm)}
    (h0 : ∀ n x m, F (n + 1) x m = (if 553 ≤ x then E m else gx x 553 (lt (up m b (ix x) (m a (ix x))) fun m_5 => lt (x + 1) fun x1_7 => F n x1_7 m_5))) :
    ∀ (d x q : Nat) (m : Mm), x + d = 553 → d < q → (∀ k, k < x → m b k = m a k) → ∃ f, (∀ k, k < 553 → f k = m a k) ∧ F q (nI x) m = E (upA m b f) := by
  intro d
  induction d with
  | zero =>
    intro x q m hd hq hk
    obtain ⟨q, rfl⟩ : ∃ q', q = q' + 1 := ⟨q - 1, by omega⟩
    refine ⟨m b, fun k hk' => hk k (by omega), ?_⟩
    rw [h0, if_pos (show (553 : Int32) ≤ nI x from nI_le (a := 553) (by omega) (by omega)), upA_self]
  | succ d ih =>
    intro x q m hd hq hk
    obtain ⟨q, rfl⟩ : ∃ q', q = q' + 1 := ⟨q - 1, by omega⟩
    rw [h0, if_neg (show ¬ (553 : Int32) ≤ nI x from nI_ge (b := 553) (by omega) (by omega)), gx_n (by omega) (by decide), ix_n (by omega), lt_v, lt_v, p1]
    obtain ⟨f, f1, f2⟩ := ih (x + 1) q (up m b x (m a x)) (by omega) (by omega) (fun k hk' => by
      rw [up_row hab, up_app, if_pos rfl]
      split
      · next e => rw [e]
      · exact hk k (by omega))
    refine ⟨f, fun k hk' => by rw [f1 k hk', up_row hab], ?_⟩
    rw [f2]
    show E (upA (upA m b _) b f) = _
    rw [upA_upA]
theorem cmpN_eq {s s' : Nat → Int32} (e : ∀ k, k < 553 → s' k = s k) : ∀ d k, k + d ≤ 149 → cmpN s' k d = cmpN s k d := by
  intro d
  induction d with
  | zero => intro k _; rfl
  | succ d ih => intro k h; rw [cmpN, cmpN, ih _ (by omega), e _ (by omega)]
theorem RulesOk.row_eq3 {s s' : Nat → Int32} (h : RulesOk s) (e : ∀ k, k < 553 → s' k = s k) : RulesOk s' := by
  have h8 := h.le8
  obtain ⟨a, b, c⟩ := h
  have e5 := e 5 (by omega)
  have e7 := e 7 (by omega)
  have h149 : ix (s 7) ≤ 149 := by obtain ⟨x, -, x8, hx⟩ := b; rw [hx, ix_n (by omega)]; exact x8
  refine ⟨by rw [e5]; exact a, by rw [e7]; exact b, fun r hr => ?_⟩
  rw [e5] at hr
  obtain ⟨r1, r2, x, y, xy, y7, hx, hy, hc⟩ := c r hr
  exact ⟨by rw [e _ (by omega)]; exact r1, by rw [e _ (by omega)]; exact r2, x, y, xy, by rw [e7]; exact y7, by rw [e _ (by omega)]; exact hx, by rw [e _ (by omega)]; exact hy, by rw [cmpN_eq e _ _ (by omega)]; exact hc⟩
theorem RulesIs.row_eq3 {j : Nat} {m : Mm} {s s' : Nat → Int32} (h : RulesIs j m s) (hR : RulesOk s) (e : ∀ k, k < 553 → s' k = s k) : RulesIs j m s' := by
  have h8 := hR.le8
  have h149 : ix (s 7) ≤ 149 := by obtain ⟨x, -, x8, hx⟩ := hR.2.1; rw [hx, ix_n (by omega)]; exact x8
  obtain ⟨a, b, c, d⟩ := h
  refine ⟨by rw [e 5 (by omega)]; exact a, by rw [e 7 (by omega)]; exact b, fun r hr => ?_, fun k hk => ?_⟩
  · rw [e 5 (by omega)] at hr
    obtain ⟨c1, c2, c3, c4⟩ := c r hr
    exact ⟨by rw [e _ (by omega)]; exact c1, by rw [e _ (by omega)]; exact c2, by rw [e _ (by omega)]; exact c3, by rw [e _ (by omega)]; exact c4⟩
  · rw [e 7 (by omega)] at hk
    have := d k hk
    rw [e _ (by omega), e _ (by omega), e _ (by omega)]
    exact this
theorem MenIs.row_eq3 {i : Nat} {m : Mm} {s s' : Nat → Int32} (h : MenIs i m s) (e : ∀ k, k < 553 → s' k = s k) : MenIs i m s' := by
  obtain ⟨a, b⟩ := h
  refine ⟨by rw [e _ (by omega)]; exact a, fun r hr => ?_⟩
  rw [e _ (by omega), e _ (by omega), e _ (by omega)]
  exact b r hr
theorem RowOk.row_eq {s s' : Nat → Int32} (h : RowOk s) (e : ∀ k, k < 553 → s' k = s k) : RowOk s' := by
  obtain ⟨⟨n, o1⟩, o2, o3⟩ := h
  exact ⟨⟨n, o1.row_eq2 (fun k hk _ => e k (by omega))⟩, o2.row_eq3 e, by rw [e _ (by omega)]; exact o3⟩
theorem op_keep : Op fX11_keep fX12_keep := by
  intro mc mr hR
  obtain ⟨⟨g1, g2, g3⟩, hok, hk, tp, w, s, sh, x⟩ := hR
  obtain ⟨m1, q1, k1, f1⟩ := copy_c (i := 1) (j := 0) (by decide) g1
  have p1' : ∀ q, (q < 81 ∨ 94 ≤ q) → m1 q = mc q := fun q hq => f1 q (by unfold gymP gp; omega)
  obtain ⟨m2, q2, k2, f2⟩ := rulesCopy_c (i := 2) (j := 0) (by decide) (by decide) (by decide) (g2.of_eq (m' := m1) (fun k hk => p1' _ (by unfold rp; omega))) hok.2.1
  obtain ⟨m3, q3, k3, f3⟩ := menCopy_c (i := 1) (j := 0) (by decide) (by decide) (by decide) (show MenIs 0 m2 (mr 1) from by
    have z : ∀ q, 44 ≤ q → q < 48 → m2 q = mc q := fun q h1 h2 => (f2 q (by omega)).trans (p1' q (by omega))
    obtain ⟨a, b⟩ := g3
    refine ⟨by rw [z _ (by unfold mp; omega) (by unfold mp; omega)]; exact a, fun r hr => ?_⟩
    rw [z _ (by unfold mp; omega) (by unfold mp; omega), z _ (by unfold mp; omega) (by unfold mp; omega), z _ (by unfold mp; omega) (by unfold mp; omega)]
    exact b r hr)
  let m4 := up m3 0 14 1
  have z : ∀ q, q ≠ 0 → (q < 34 ∨ (42 ≤ q ∧ q < 48) ∨ (52 ≤ q ∧ q < 81) ∨ 94 ≤ q) → m4 q = mc q := fun q h0 hq => (up_row h0).trans ((f3 q (by omega)).trans ((f2 q (by omega)).trans (p1' q (by omega))))
  have z0 : ∀ k, k ≠ 14 → m4 0 k = mc 0 k := fun k hk => (up_ne (Or.inr hk)).trans (by rw [f3 0 (by omega), f2 0 (by omega), p1' 0 (by omega)])
  obtain ⟨f, hf, hfr⟩ := keepR_loop (a := 1) (b := 2) (by decide) (F := fX12_keep_2) (E := fun m => lt (up m 0 2 1) fun m_2 => some (1, m_2)) (fun n x m => rfl) 553 0 FL mr (by omega) (by decide) (fun k hk => by omega)
  have er : fX12_keep mr = some (1, up (upA mr 2 f) 0 2 1) := hfr
  refine ⟨1, m4, up (upA mr 2 f) 0 2 1, ?_, er, ?_⟩
  · unfold fX11_keep
    rw [q1, bd_s, q2, bd_s, q3, bd_s, lt_v]
  have r : ∀ q, q ≠ 0 → q ≠ 2 → (up (upA mr 2 f) 0 2 1) q = mr q := fun q h1 h2 => (up_row h1).trans (upA_ne h2)
  have r0 : ∀ k, k ≠ 2 → (up (upA mr 2 f) 0 2 1) 0 k = mr 0 k := fun k hk => (up_ne (Or.inr hk)).trans (congrFun (upA_ne (by decide)) k)
  have r2 : (up (upA mr 2 f) 0 2 1) 2 = f := (up_row (by decide)).trans upA_same
  refine ⟨?_, by rw [r 1 (by decide) (by decide)]; exact hok, ?_, ?_, ?_, ?_, ?_, ?_⟩
  · rw [r 1 (by decide) (by decide)]
    refine ⟨g1.of_eq (fun k hk _ _ => z _ (by unfold gp; omega) (by unfold gp; omega)), g2.of_eq (fun k hk => z _ (by unfold rp; omega) (by unfold rp; omega)), ?_⟩
    obtain ⟨a, b⟩ := g3
    refine ⟨by rw [z _ (by unfold mp; omega) (by unfold mp; omega)]; exact a, fun r hr => ?_⟩
    rw [z _ (by unfold mp; omega) (by unfold mp; omega), z _ (by unfold mp; omega) (by unfold mp; omega), z _ (by unfold mp; omega) (by unfold mp; omega)]
    exact b r hr
  · refine Or.inr ⟨up_at, up_at, ?_, by rw [r2]; exact hok.row_eq hf⟩
    rw [r2]
    refine ⟨(k1.row_eq (fun k hk => hf k (by omega))).of_eq (fun k hk _ _ => ?_), (k2.row_eq3 hok.2.1 hf).of_eq (fun k hk => ?_), ?_⟩
    · show up m3 0 14 1 _ = _
      rw [up_row (by unfold gp; omega), f3 _ (by unfold gp; omega), f2 _ (by unfold gp; omega)]
    · show up m3 0 14 1 _ = _
      rw [up_row (by unfold rp; omega), f3 _ (by unfold rp; omega)]
    · obtain ⟨a, b⟩ := k3.row_eq3 hf
      refine ⟨by show up m3 0 14 1 _ _ = _; rw [up_row (by decide)]; exact a, fun r hr => ?_⟩
      show up m3 0 14 1 _ _ = _ ∧ up m3 0 14 1 _ _ = _ ∧ up m3 0 14 1 _ _ = _
      rw [up_row (by decide), up_row (by decide), up_row (by decide)]
      exact b r hr
  · exact tp.of (z0 _ (by decide)) (r0 _ (by decide)) (z _ (by decide) (by omega)) (r _ (by decide) (by decide))
  · exact w.of (z0 _ (by decide)) (r0 _ (by decide)) (fun q h1 h2 => z _ (by omega) (by omega)) (r _ (by decide) (by decide))
  · exact s.of (fun q h1 h2 => z _ (by omega) (by omega)) (r _ (by decide) (by decide)) (r _ (by decide) (by decide)) (r _ (by decide) (by decide))
  · exact sh.of (fun q h1 h2 => z _ (by omega) (by omega)) (r _ (by decide) (by decide)) (r _ (by decide) (by decide)) (r _ (by decide) (by decide))
  · exact x.of (by rw [z 52 (by decide) (by omega)]) (r0 _ (by decide)) (z _ (by decide) (by omega)) (r _ (by decide) (by decide))
theorem op_again : Op fX11_again fX12_again := by
  intro mc mr hR
  have hR0 := hR
  obtain ⟨-, -, hk, tp, w, s, sh, x⟩ := hR
  unfold fX11_again fX12_again
  rcases hk with ⟨e1, e2⟩ | ⟨e1, e2, ⟨k1, k2, k3⟩, hok⟩
  · rw [e1, e2, if_pos rfl, if_pos rfl]; exact ⟨-3, mc, mr, rfl, rfl, hR0⟩
  rw [e1, e2, if_neg (by decide), if_neg (by decide)]
  obtain ⟨m1, q1, g1, f1⟩ := copy_c (i := 0) (j := 1) (by decide) k1
  have p1' : ∀ q, (q < 68 ∨ 81 ≤ q) → m1 q = mc q := fun q hq => f1 q (by unfold gymP gp; omega)
  obtain ⟨m2, q2, g2, f2⟩ := rulesCopy_c (i := 0) (j := 2) (by decide) (by decide) (by decide) (k2.of_eq (m' := m1) (fun k hk => p1' _ (by unfold rp; omega))) hok.2.1
  obtain ⟨m3, q3, g3, f3⟩ := menCopy_c (i := 0) (j := 1) (by decide) (by decide) (by decide) (show MenIs 1 m2 (mr 2) from by
    have z : ∀ q, 48 ≤ q → q < 52 → m2 q = mc q := fun q h1 h2 => (f2 q (by omega)).trans (p1' q (by omega))
    obtain ⟨a, b⟩ := k3
    refine ⟨by rw [z _ (by unfold mp; omega) (by unfold mp; omega)]; exact a, fun r hr => ?_⟩
    rw [z _ (by unfold mp; omega) (by unfold mp; omega), z _ (by unfold mp; omega) (by unfold mp; omega), z _ (by unfold mp; omega) (by unfold mp; omega)]
    exact b r hr)
  have z : ∀ q, (q < 14 ∨ (22 ≤ q ∧ q < 44) ∨ (48 ≤ q ∧ q < 68) ∨ 81 ≤ q) → m3 q = mc q := fun q hq => (f3 q (by omega)).trans ((f2 q (by omega)).trans (p1' q (by omega)))
  obtain ⟨f, hf, hfr⟩ := keepR_loop (a := 2) (b := 1) (by decide) (F := fX12_again_12) (E := fun m => some (m 1 0, m)) (fun n x m => rfl) 553 0 FL mr (by omega) (by decide) (fun k hk => by omega)
  have er : fX12_again_12 FL 0 mr = some (f 0, upA mr 1 f) := by
    have := hfr
    rw [show upA mr 1 f 1 0 = f 0 from by rw [upA_same]] at this
    exact this
  have gg : GymIs 0 m3 (mr 2) := g1.of_eq (fun k hk _ _ => by rw [f3 _ (by unfold gp; omega), f2 _ (by unfold gp; omega)])
  have r : ∀ q, q ≠ 1 → (upA mr 1 f) q = mr q := fun q h => upA_ne h
  refine ⟨f 0, m3, upA mr 1 f, ?_, er, ⟨?_, ?_, ?_⟩, ?_, ?_, ?_, ?_, ?_, ?_, ?_⟩
  · rw [q1, bd_s, q2, bd_s, q3, bd_s, gg.1.1, hf 0 (by decide)]
  · rw [upA_same]; exact gg.row_eq (fun k hk => hf k (by omega))
  · rw [upA_same]; exact (g2.row_eq3 hok.2.1 hf).of_eq (fun k hk => by rw [f3 _ (by unfold rp; omega)])
  · rw [upA_same]; exact g3.row_eq3 hf
  · rw [upA_same]; exact hok.row_eq hf
  · refine Or.inr ⟨by rw [z 0 (by omega)]; exact e1, by rw [r 0 (by decide)]; exact e2, ?_, by rw [r 2 (by decide)]; exact hok⟩
    rw [r 2 (by decide)]
    refine ⟨k1.of_eq (fun k hk _ _ => z _ (by unfold gp; omega)), k2.of_eq (fun k hk => z _ (by unfold rp; omega)), ?_⟩
    obtain ⟨a, b⟩ := k3
    refine ⟨by rw [z _ (by unfold mp; omega)]; exact a, fun r hr => ?_⟩
    rw [z _ (by unfold mp; omega), z _ (by unfold mp; omega), z _ (by unfold mp; omega)]
    exact b r hr
  · exact tp.of (by rw [z 0 (by omega)]) (by rw [r 0 (by decide)]) (z _ (by omega)) (r _ (by decide))
  · exact w.of (by rw [z 0 (by omega)]) (by rw [r 0 (by decide)]) (fun q h1 h2 => z _ (by omega)) (r _ (by decide))
  · exact s.of (fun q h1 h2 => z _ (by omega)) (r _ (by decide)) (r _ (by decide)) (r _ (by decide))
  · exact sh.of (fun q h1 h2 => z _ (by omega)) (r _ (by decide)) (r _ (by decide)) (r _ (by decide))
  · exact x.of (by rw [z 52 (by omega)]) (by rw [r 0 (by decide)]) (z _ (by omega)) (r _ (by decide))
