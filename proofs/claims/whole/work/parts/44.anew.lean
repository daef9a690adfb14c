theorem upd_comm {f : Nat → Int32} {k j : Nat} {a b : Int32} (h : k ≠ j) : upd (upd f k a) j b = upd (upd f j b) k a := by
  funext q
  rw [u_app, u_app, u_app, u_app]
  by_cases h1 : q = j
  · rw [if_pos h1, if_neg (by omega), if_pos h1]
  · rw [if_neg h1, if_neg h1]
def leftF (s : Nat → Int32) : Nat → Nat → (Nat → Int32)
  | _, 0 => s
  | r, d + 1 => upd (leftF s (r + 1) d) (8 + 5 * r + 4) 3
def zeroF (s : Nat → Int32) : Nat → Nat → (Nat → Int32)
  | _, 0 => s
  | k, d + 1 => upd (zeroF s (k + 1) d) k 0
theorem leftF_out {s : Nat → Int32} : ∀ (d r k : Nat), (∀ j, r ≤ j → j < r + d → k ≠ 8 + 5 * j + 4) → leftF s r d k = s k := by
  intro d
  induction d with
  | zero => intro r k _; rfl
  | succ d ih => intro r k h; rw [leftF, pk_un (h r (by omega) (by omega))]; exact ih (r + 1) k (fun j h1 h2 => h j (by omega) (by omega))
theorem leftF_in {s : Nat → Int32} : ∀ (d r j : Nat), r ≤ j → j < r + d → leftF s r d (8 + 5 * j + 4) = 3 := by
  intro d
  induction d with
  | zero => intro r j h1 h2; omega
  | succ d ih =>
    intro r j h1 h2
    rw [leftF, u_app]
    split
    · rfl
    · exact ih (r + 1) j (by omega) (by omega)
theorem zeroF_out {s : Nat → Int32} : ∀ (d r k : Nat), (k < r ∨ r + d ≤ k) → zeroF s r d k = s k := by
  intro d
  induction d with
  | zero => intro r k _; rfl
  | succ d ih => intro r k h; rw [zeroF, pk_un (by omega)]; exact ih (r + 1) k (by omega)
theorem zeroF_in {s : Nat → Int32} : ∀ (d r k : Nat), r ≤ k → k < r + d → zeroF s r d k = 0 := by
  intro d
  induction d with
  | zero => intro r k h1 h2; omega
  | succ d ih =>
    intro r k h1 h2
    rw [zeroF, u_app]
    split
    · rfl
    · exact ih (r + 1) k (by omega) (by omega)
theorem zeroF_upd {s : Nat → Int32} {k0 : Nat} {v : Int32} : ∀ (d r : Nat), k0 < r → zeroF (upd s k0 v) r d = upd (zeroF s r d) k0 v := by
  intro d
  induction d with
  | zero => intro r _; rfl
  | succ d ih => intro r h; rw [zeroF, zeroF, ih (r + 1) (by omega), upd_comm (by omega)]
theorem leftF_upd {s : Nat → Int32} {k0 : Nat} {v : Int32} : ∀ (d r : Nat), k0 < 8 + 5 * r + 4 → leftF (upd s k0 v) r d = upd (leftF s r d) k0 v := by
  intro d
  induction d with
  | zero => intro r _; rfl
  | succ d ih => intro r h; rw [leftF, leftF, ih (r + 1) (by omega), upd_comm (by omega)]
/-- how anew leaves the row -/
def anewS (s : Nat → Int32) (n : Nat) : Nat → Int32 := upd (upd (zeroF (leftF s 0 n) 38 9) 3 0) 1 0
theorem anew_r1 {n : Nat} (h6 : n ≤ 6) : ∀ (d r q : Nat) (m : Mm), m 1 0 = nI n → r + d = n → d < q → fX12_anew_2 q (nI r) m = fX12_anew_35 FL 38 (upA m 1 (leftF (m 1) r d)) := by
  intro d
  induction d with
  | zero =>
    intro r q m h0 hd hq
    obtain ⟨q, rfl⟩ : ∃ q', q = q' + 1 := ⟨q - 1, by omega⟩
    rw [fX12_anew_2, h0, if_pos (nI_le (by omega) (by omega))]
    show _ = fX12_anew_35 FL 38 (upA m 1 (m 1))
    rw [upA_self]
  | succ d ih =>
    intro r q m h0 hd hq
    obtain ⟨q, rfl⟩ : ∃ q', q = q' + 1 := ⟨q - 1, by omega⟩
    rw [fX12_anew_2, h0, if_neg (nI_ge (by omega) (by omega)), e_one, p4, gx_n (by omega) (by decide), ix_n (by omega), lt_v, lt_v, p1, ih (r + 1) q _ (by rw [up_ne (Or.inr (by omega))]; exact h0) (by omega) (by omega), up_own, leftF_upd _ _ (by omega)]
    show fX12_anew_35 FL 38 (upA (upA m 1 _) 1 _) = _
    rw [upA_upA]
    rfl
theorem anew_r2 : ∀ (d k q : Nat) (m : Mm), k + d = 47 → d < q → fX12_anew_35 q (nI k) m = some (m 1 1, upA m 1 (upd (upd (zeroF (m 1) k d) 3 0) 1 0)) ∨ k < 4 := by
  intro d
  induction d with
  | zero =>
    intro k q m hd hq
    obtain ⟨q, rfl⟩ : ∃ q', q = q' + 1 := ⟨q - 1, by omega⟩
    refine Or.inl ?_
    rw [fX12_anew_35, if_pos (show (47 : Int32) ≤ nI k from nI_le (a := 47) (by omega) (by omega)), lt_v, show (1 : Int32) = nI 1 from rfl, becomes_r (by decide), bd_s, up_ne (Or.inr (by decide)), show up m 1 3 0 = upA m 1 (upd (m 1) 3 0) from rfl, up_up1]
    rfl
  | succ d ih =>
    intro k q m hd hq
    by_cases k4 : k < 4
    · exact Or.inr k4
    refine Or.inl ?_
    obtain ⟨q, rfl⟩ : ∃ q', q = q' + 1 := ⟨q - 1, by omega⟩
    rw [fX12_anew_35, if_neg (show ¬ (47 : Int32) ≤ nI k from nI_ge (b := 47) (by omega) (by omega)), gx_n (by omega) (by decide), ix_n (by omega), lt_v, lt_v, p1]
    rcases ih (k + 1) q (up m 1 k 0) (by omega) (by omega) with e | e
    · rw [e, up_ne (Or.inr (by omega)), up_own, zeroF_upd _ _ (by omega)]
      show some (m 1 1, upA (upA m 1 _) 1 _) = _
      rw [upA_upA]
      rfl
    · omega
theorem anew_c1 {i n : Nat} (h6 : n ≤ 6) : ∀ (d r q : Nat) (m : Mm) (s : Nat → Int32), GymIs i m s → s 0 = nI n → r + d = n → d < q → ∃ m', fX1_beginAnew_12 i q (nI r) m = fX1_beginAnew_37 i FL 0 m' ∧ GymIs i m' (leftF s r d) ∧ Fr (gymP i) m m' := by
  intro d
  induction d with
  | zero =>
    intro r q m s hG h0 hd hq
    obtain ⟨q, rfl⟩ : ∃ q', q = q' + 1 := ⟨q - 1, by omega⟩
    rw [fX1_beginAnew_12, hG.1.1, h0, if_pos (nI_le (by omega) (by omega))]
    exact ⟨m, rfl, hG, Fr.rf⟩
  | succ d ih =>
    intro r q m s hG h0 hd hq
    obtain ⟨q, rfl⟩ : ∃ q', q = q' + 1 := ⟨q - 1, by omega⟩
    rw [fX1_beginAnew_12, hG.1.1, h0, if_neg (nI_ge (by omega) (by omega)), gx_n (by omega) (by decide), ix_n (by omega), lt_v, lt_v, p1]
    obtain ⟨m', e, g, f⟩ := ih (r + 1) q _ _ (hG.up_of (w := 4) (v := 3) (by decide) (show r < 6 by omega)) (by rw [pk_un (by omega)]; exact h0) (by omega) (by omega)
    refine ⟨m', e, ?_, (Fr.rf.up (gymP_in (by decide))).tr f⟩
    rw [leftF_upd _ _ (by omega)] at g
    exact g
theorem anew_c3 {i : Nat} : ∀ (d r q : Nat) (m : Mm) (s : Nat → Int32), GymIs i m s → r + d = 6 → d < q → ∃ m', fX1_beginAnew_57 i q (nI r) m = some (0, m') ∧ GymIs i m' (zeroF s (41 + r) d) ∧ Fr (gymP i) m m' := by
  intro d
  induction d with
  | zero =>
    intro r q m s hG hd hq
    obtain ⟨q, rfl⟩ : ∃ q', q = q' + 1 := ⟨q - 1, by omega⟩
    rw [fX1_beginAnew_57, if_pos (show (6 : Int32) ≤ nI r from nI_le (a := 6) (by omega) (by omega))]
    exact ⟨m, rfl, hG, Fr.rf⟩
  | succ d ih =>
    intro r q m s hG hd hq
    obtain ⟨q, rfl⟩ : ∃ q', q = q' + 1 := ⟨q - 1, by omega⟩
    rw [fX1_beginAnew_57, if_neg (show ¬ (6 : Int32) ≤ nI r from nI_ge (b := 6) (by omega) (by omega)), gx_n (by omega) (by decide), ix_n (by omega), lt_v, lt_v, p1]
    obtain ⟨m', e, g, f⟩ := ih (r + 1) q _ _ (hG.up_load (v := 0) (show r < 6 by omega)) (by omega) (by omega)
    refine ⟨m', e, ?_, (Fr.rf.up (gymP_in (by decide))).tr f⟩
    rw [zeroF_upd _ _ (by omega)] at g
    exact g
theorem anew_c2 {i : Nat} : ∀ (d r q : Nat) (m : Mm) (s : Nat → Int32), GymIs i m s → r + d = 3 → d < q → ∃ m', fX1_beginAnew_37 i q (nI r) m = fX1_beginAnew_57 i FL 0 m' ∧ GymIs i m' (zeroF s (38 + r) d) ∧ Fr (gymP i) m m' := by
  intro d
  induction d with
  | zero =>
    intro r q m s hG hd hq
    obtain ⟨q, rfl⟩ : ∃ q', q = q' + 1 := ⟨q - 1, by omega⟩
    rw [fX1_beginAnew_37, if_pos (show (3 : Int32) ≤ nI r from nI_le (a := 3) (by omega) (by omega))]
    exact ⟨m, rfl, hG, Fr.rf⟩
  | succ d ih =>
    intro r q m s hG hd hq
    obtain ⟨q, rfl⟩ : ∃ q', q = q' + 1 := ⟨q - 1, by omega⟩
    rw [fX1_beginAnew_37, if_neg (show ¬ (3 : Int32) ≤ nI r from nI_ge (b := 3) (by omega) (by omega)), gx_n (by omega) (by decide), ix_n (by omega), lt_v, lt_v, p1]
    obtain ⟨m', e, g, f⟩ := ih (r + 1) q _ _ (hG.up_tired (v := 0) (show r < 3 by omega)) (by omega) (by omega)
    refine ⟨m', e, ?_, (Fr.rf.up (gymP_in (by decide))).tr f⟩
    rw [zeroF_upd _ _ (by omega)] at g
    exact g
theorem op_anew : Op fX11_anew fX12_anew := by
  intro mc mr hR
  obtain ⟨n, hn⟩ := hR.2.1.1
  have hG := hR.1.1
  have h6 := hn.2.1
  have P0 : gymP 0 (gp 0 0) := gymP_in (by decide)
  let s2 := upd (upd (mr 1) 1 0) 3 0
  have g2 : GymIs 0 (up (up mc (gp 0 0) 6 0) (gp 0 0) 8 0) s2 := (hG.up_fld (k := 6) (v := 0) (by omega)).up_fld (k := 8) (v := 0) (by omega)
  obtain ⟨m3, q3, g3, f3⟩ := anew_c1 h6 n 0 FL _ _ g2 (show s2 0 = nI n from (pk_un (by decide)).trans ((pk_un (by decide)).trans hn.1)) (by omega) (by unfold FL; omega)
  obtain ⟨m4, q4, g4, f4⟩ := anew_c2 3 0 FL _ _ g3 (by omega) (by decide)
  obtain ⟨m5, q5, g5, f5⟩ := anew_c3 6 0 FL _ _ g4 (by omega) (by decide)
  have es : zeroF (zeroF (leftF s2 0 n) (38 + 0) 3) (41 + 0) 6 = anewS (mr 1) n := by
    unfold anewS
    rw [show s2 = upd (upd (mr 1) 1 0) 3 0 from rfl, leftF_upd _ _ (by omega), leftF_upd _ _ (by omega), zeroF_upd _ _ (by omega), zeroF_upd _ _ (by omega), zeroF_upd _ _ (by omega), zeroF_upd _ _ (by omega), upd_comm (by decide)]
    congr 2
    funext k
    by_cases h1 : k < 38 ∨ 47 ≤ k
    · rw [zeroF_out _ _ _ (by omega), zeroF_out _ _ _ (by omega), zeroF_out _ _ _ (by omega)]
    · rw [zeroF_in 9 38 k (by omega) (by omega)]
      by_cases h2 : k < 41
      · rw [zeroF_out _ _ _ (by omega), zeroF_in _ _ _ (by omega) (by omega)]
      · rw [zeroF_in _ _ _ (by omega) (by omega)]
  rw [es] at g5
  have er : fX12_anew mr = some (mr 1 1, upA mr 1 (anewS (mr 1) n)) := by
    unfold fX12_anew
    rw [show (0 : Int32) = nI 0 from rfl, anew_r1 h6 n 0 FL mr hn.1 (by omega) (by unfold FL; omega), show (38 : Int32) = nI 38 from rfl]
    rcases anew_r2 9 38 FL (upA mr 1 (leftF (mr 1) 0 n)) (by decide) (by decide) with e | e
    · rw [e, upA_same, upA_upA, leftF_out _ _ _ (fun j h1 h2 => by omega)]
      rfl
    · omega
  have F : Fr (gymP 0) mc m5 := (((Fr.rf.up P0).up P0).tr f3).tr (f4.tr f5)
  refine ⟨mr 1 1, m5, upA mr 1 (anewS (mr 1) n), ?_, er, ?_⟩
  · unfold fX11_anew fX1_beginAnew
    rw [lt_v, lt_v, lt_v, hG.1.2.1, show (0 : Int32) = nI 0 from rfl]
    show bd (fX1_beginAnew_12 0 FL (nI 0) (up (up mc (gp 0 0) 6 0) (gp 0 0) 8 0)) _ = _
    rw [q3]
    show bd (fX1_beginAnew_37 0 FL (nI 0) m3) _ = _
    rw [q4]
    show bd (fX1_beginAnew_57 0 FL (nI 0) m4) _ = _
    rw [q5, bd_s]
  · have ho : ∀ k, k ≠ 1 → k ≠ 3 → (∀ j, j < n → k ≠ 8 + 5 * j + 4) → (k < 38 ∨ 47 ≤ k) → anewS (mr 1) n k = mr 1 k := by
      intro k k1 k3 kl kz
      unfold anewS
      rw [pk_un k1, pk_un k3, zeroF_out _ _ _ (by omega), leftF_out _ _ _ (fun j h1 h2 => kl j (by omega))]
    have ez : ∀ k, 38 ≤ k → k < 47 → anewS (mr 1) n k = 0 := by
      intro k k1 k2
      unfold anewS
      rw [pk_un (by omega), pk_un (by omega), zeroF_in _ _ _ (by omega) (by omega)]
    refine hR.gym (n := n) (by rw [upA_same]; exact g5) ?_ (fun k hk => by rw [upA_same]; exact ho k (by omega) (by omega) (fun j hj => by omega) (by omega)) (Ce.of_fr F (fun q k z => Or.inr z)) (fun q k hq => congrFun (upA_ne (fun e => hq (Or.inr e))) k)
    rw [upA_same]
    obtain ⟨h0, -, ⟨t, e, te, e1, e16, ht, he⟩, hS1, hT, hL, hM⟩ := hn
    refine ⟨by rw [ho 0 (by omega) (by omega) (fun j hj => by omega) (by omega)]; exact h0, h6, ⟨0, e, by omega, e1, e16, pk_us, by rw [ho 2 (by omega) (by omega) (fun j hj => by omega) (by omega)]; exact he⟩, fun o ho' => ?_, fun u hu => ?_, fun k hk => ?_, fun k hk => ?_⟩
    · obtain ⟨b0, b1, b2, b3, b4⟩ := hS1 o ho'
      refine ⟨by rw [ho _ (by omega) (by omega) (fun j hj => by omega) (by omega)]; exact b0, by rw [ho _ (by omega) (by omega) (fun j hj => by omega) (by omega)]; exact b1, by rw [ho _ (by omega) (by omega) (fun j hj => by omega) (by omega)]; exact b2, by rw [ho _ (by omega) (by omega) (fun j hj => by omega) (by omega)]; exact b3, ?_⟩
      unfold anewS
      rw [pk_un (by omega), pk_un (by omega), zeroF_out _ _ _ (by omega), leftF_in _ _ _ (by omega) (by omega)]
      exact ⟨3, by decide, by decide, rfl⟩
    · rw [ez _ (by omega) (by omega)]; exact ⟨0, by decide, by decide, rfl⟩
    · rw [ez _ (by omega) (by omega)]; exact ⟨0, by decide, by decide, rfl⟩
    · rw [ho _ (by omega) (by omega) (fun j hj => by omega) (by omega)]; exact hM k hk
