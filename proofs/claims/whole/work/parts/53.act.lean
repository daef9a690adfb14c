theorem op_taken (a1 a2 : Int32) : Op (fX11_taken a1 a2) (fX12_taken a1 a2) := by
  intro mc mr hR
  obtain ⟨n, hn⟩ := hR.2.1.1
  have h6 := hn.2.1
  unfold fX11_taken fX12_taken
  rw [isShelf_r, bd_s]
  have d14 : fX12_isIn (Int32.toInt64 a2) 0 14 mr = some (b2 (decide (nI 0 ≤ a2) && decide (a2 ≤ nI 14)), mr) := isIn_r mr rfl rfl rfl
  have d69 : fX12_isIn (Int32.toInt64 a2) 6 9 mr = some (b2 (decide (nI 6 ≤ a2) && decide (a2 ≤ nI 9)), mr) := isIn_r mr rfl rfl rfl
  have bad : fX11_taken_33 a1 a2 0 0 mc = some (-1, mc) := by
    unfold fX11_taken_33
    rw [isShelf_c, bd_s, if_pos rfl, if_pos rfl]
    split <;> rfl
  have noshelf : (decide (nI 0 ≤ a1) && decide (a1 ≤ nI 3)) = false → ∀ x y, fX11_taken_33 a1 a2 x y mc = some (-1, mc) := by
    intro e x y
    unfold fX11_taken_33
    rw [isShelf_c, bd_s, e, if_pos b2f]
  rcases rngC a1 (lo := 0) (hi := 3) (by decide) (by decide) with e | ⟨⟨h, -, h3, rfl⟩, e⟩
  · have z := noshelf e
    refine ⟨-1, mc, mr, ?_, by rw [e, if_pos b2f], hR⟩
    unfold fX11_taken_15
    simp [z]
  rw [e, if_neg b2t, d14, bd_s]
  have h4 : h < 4 := by omega
  have gh : ∀ {α : Type} (k : Option α), gx (nI h) 4 k = k := fun k => gx_n h4 (by decide)
  rcases rngC a2 (lo := 0) (hi := 14) (by decide) (by decide) with e2 | ⟨⟨v, -, v14, rfl⟩, e2⟩
  · rw [e2, if_pos b2f]
    refine ⟨-1, mc, mr, ?_, rfl, hR⟩
    unfold fX11_taken_15
    rcases rngF e2 with k | ⟨k, k2⟩
    · rw [if_pos (show a2 < 0 from k), if_pos (show a2 < 10 by rw [i_lt] at k ⊢; rw [show (nI 0).toInt = 0 from rfl] at k; rw [show (10 : Int32).toInt = 10 from rfl]; omega)]
      exact bad
    · have k3 : 14 < a2.toInt := by rw [i_lt, show (nI 14).toInt = 14 from rfl] at k2; exact k2
      rw [if_neg (show ¬ a2 < 0 from k), if_pos (show (6 : Int32) ≤ a2 by rw [i_le, show (6 : Int32).toInt = 6 from rfl]; omega), if_neg (show ¬ a2 < 10 by rw [i_lt, show (10 : Int32).toInt = 10 from rfl]; omega), if_pos (show (14 : Int32) < a2 from k2)]
      exact bad
  rw [e2, if_neg b2t, d69, bd_s, if_neg (nI_pos (by omega))]
  have isv : fX11_isShelf (nI h) mc = some (1, mc) := by rw [isShelf_c, e]; rfl
  by_cases c6 : v < 6
  · have f69 : (decide (nI 6 ≤ nI v) && decide (nI v ≤ nI 9)) = false := by rw [decide_eq_false (nI_ge c6 (by omega))]; rfl
    rw [f69, if_pos b2f, if_neg (show ¬ (6 : Int32) ≤ nI v from nI_ge (b := 6) c6 (by decide))]
    have n10 : ¬ (10 : Int32) ≤ nI v := nI_ge (b := 10) (by omega) (by decide)
    unfold fX11_taken_15
    rw [if_pos (show nI v < 10 from nI_lt (b := 10) (by omega) (by decide))]
    unfold fX11_taken_33
    rw [isv, bd_s, if_neg (by decide), if_neg (by decide)]
    unfold fX11_taken_53
    rw [gh, lt_v, ix_n (show h < 2 ^ 31 by omega)]
    rcases held_b hR hn h4 with ⟨a, b, c, d, q1, q2⟩ | ⟨a, q1, q2⟩ | ⟨o, ho, a, b, c, q1, q2⟩
    · rw [a, if_pos rfl, if_pos rfl, q2, bd_s, if_neg (show ¬ (2 : Int32) = 0 by decide), if_neg n10, if_neg (show ¬ (2 : Int32) = 1 by decide)]; exact ⟨_, mc, mr, rfl, rfl, hR⟩
    · rw [if_neg a, q1, q2, bd_s, bd_s, if_pos rfl, if_pos rfl]; exact ⟨_, mc, mr, rfl, rfl, hR⟩
    · obtain ⟨k, k1, k5, hk⟩ := (hn.2.2.2.1 o ho).1
      rw [if_neg a, q1, q2, bd_s, bd_s, if_neg (show ¬ (1 : Int32) = 0 by decide), if_neg (show ¬ (1 : Int32) = 0 by decide), if_neg (show ¬ (1 : Int32) = 0 by decide), if_neg n10, if_pos rfl, gh, c, its0 (by omega), bd_s, hk, isUnder_r k1 k5 (by omega), bd_s, b, gx_n (by omega) (by decide), ix_n (by omega), g_kind hR.1.1 (by omega), hk, gx_n (by omega) (by decide), ix_n (by omega)]
      have hun := under_c k (by omega) v c6
      cases hb9 : underB k v
      · rw [hb9] at hun
        rw [if_neg (of_decide_eq_false hun), if_pos b2f]; exact ⟨_, mc, mr, rfl, rfl, hR⟩
      · rw [hb9] at hun
        rw [if_pos (of_decide_eq_true hun), if_neg b2t, c]; exact ⟨_, mc, mr, rfl, rfl, hR⟩
  · rw [if_pos (show (6 : Int32) ≤ nI v from nI_le (a := 6) (by omega) (by omega))]
    by_cases c10 : v < 10
    · have f69 : (decide (nI 6 ≤ nI v) && decide (nI v ≤ nI 9)) = true := by rw [decide_eq_true (nI_le (by omega) (by omega)), decide_eq_true (nI_le (by omega) (by decide))]; rfl
      rw [f69, if_neg b2t]
      unfold fX11_taken_15
      rw [if_pos (show nI v < 10 from nI_lt (b := 10) (by omega) (by decide)), bad]
      exact ⟨_, mc, mr, rfl, rfl, hR⟩
    · have f69 : (decide (nI 6 ≤ nI v) && decide (nI v ≤ nI 9)) = false := by rw [decide_eq_false (nI_ge (show 9 < v by omega) (by omega)), Bool.and_false]
      rw [f69, if_pos b2f]
      unfold fX11_taken_15
      rw [if_neg (show ¬ nI v < 10 from nI_nlt (b := 10) (by omega) (by omega)), if_neg (show ¬ (14 : Int32) < nI v from nI_nlt (a := 14) (by omega) (by decide))]
      have y10 : (10 : Int32) ≤ nI v := nI_le (a := 10) (by omega) (by omega)
      unfold fX11_taken_33
      rw [isv, bd_s, if_neg (by decide), if_pos rfl, if_neg (by decide)]
      unfold fX11_taken_53
      rw [gh, lt_v, ix_n (show h < 2 ^ 31 by omega)]
      rcases held_b hR hn h4 with ⟨a, b, c, d, q1, q2⟩ | ⟨a, q1, q2⟩ | ⟨o, ho, a, b, c, q1, q2⟩
      · rw [a, if_pos rfl, if_neg (show ¬ (1 : Int32) = 0 by decide), q2, bd_s, if_neg (show ¬ (2 : Int32) = 0 by decide), if_pos y10, if_pos rfl, gh, c, d]
        by_cases cc : mr 13 h = nI v - 10
        · rw [if_pos cc, if_pos cc]; exact ⟨_, mc, mr, rfl, rfl, hR⟩
        · rw [if_neg cc, if_neg cc]; exact ⟨_, mc, mr, rfl, rfl, hR⟩
      · rw [if_neg a, q1, q2, bd_s, bd_s, if_pos rfl, if_pos rfl]; exact ⟨_, mc, mr, rfl, rfl, hR⟩
      · rw [if_neg a, q1, q2, bd_s, bd_s, if_neg (show ¬ (1 : Int32) = 0 by decide), if_pos rfl, if_neg (show ¬ (1 : Int32) = 0 by decide), if_pos y10, if_neg (show ¬ (1 : Int32) = 2 by decide)]; exact ⟨_, mc, mr, rfl, rfl, hR⟩
/-! the bodies -/
def Ho (mc mr : Mm) (k o : Nat) (w : Int32) (b : Bool) (m m' : Mm) : Prop :=
  (m 52 7 = nI o ∧ m 52 8 = w ∧ m 52 9 = b2 b) ∧ (m' 0 36 = nI o ∧ m' 0 37 = w ∧ m' 0 38 = b2 b ∧ m' 0 35 = nI k) ∧ TraceIs m m' ∧ (∀ q, q ≠ 52 → q ≠ 63 → m q = mc q) ∧ (∀ q, q ≠ 0 → q ≠ 15 → m' q = mr q) ∧ (∀ k, k < 34 → m' 0 k = mr 0 k)
def Both (P : Mm → Mm → Prop) (fc fr : Option (Int32 × Mm)) : Prop := ∃ r m m', fc = some (r, m) ∧ fr = some (r, m') ∧ P m m'
section BODY
variable {mc mr : Mm} {k o : Nat} {w : Int32}
theorem Ho.begins {m m' : Mm} (h : Ho mc mr k o w false m m') (a : Int32) : ∃ m1 m2, fX3_begins a m = some (1, m1) ∧ fX12_runs a m' = some (0, m2) ∧ Ho mc mr k o w false m1 m2 := by
  obtain ⟨⟨a1, a2, a3⟩, ⟨b1, b2', b3, b4⟩, ⟨t1, ⟨c, -, c30, hc⟩, t3⟩, f1, f2, f3⟩ := h
  unfold fX3_begins fX12_runs
  rw [a3, if_pos b2f, t1, hc]
  by_cases e : 30 ≤ c
  · rw [if_pos (show (30 : Int32) ≤ nI c from nI_le (a := 30) e (by omega)), if_pos (show (30 : Int32) ≤ nI c from nI_le (a := 30) e (by omega))]
    exact ⟨m, m', rfl, rfl, ⟨a1, a2, a3⟩, ⟨b1, b2', b3, b4⟩, ⟨t1, ⟨c, by omega, c30, hc⟩, t3⟩, f1, f2, f3⟩
  · have s63 : (52 : Nat) ≠ 63 := by decide
    have s15 : (0 : Nat) ≠ 15 := by decide
    rw [if_neg (show ¬ (30 : Int32) ≤ nI c from nI_ge (b := 30) (by omega) (by decide)), if_neg (show ¬ (30 : Int32) ≤ nI c from nI_ge (b := 30) (by omega) (by decide)), gx_n (by omega) (by decide), gx_n (by omega) (by decide), ix_n (by omega), lt_v, lt_v, lt_v, lt_v, up_row s63, up_row s15, t1, hc, p1]
    refine ⟨_, _, rfl, rfl, ⟨?_, ?_, ?_⟩, ⟨?_, ?_, ?_, ?_⟩, ⟨?_, ?_, fun j hj => ?_⟩, fun q h1 h2 => ?_, fun q h1 h2 => ?_, fun j hj => ?_⟩
    · rw [up_ne (Or.inr (by decide)), up_row s63]; exact a1
    · rw [up_ne (Or.inr (by decide)), up_row s63]; exact a2
    · rw [up_ne (Or.inr (by decide)), up_row s63]; exact a3
    · rw [up_ne (Or.inr (by decide)), up_row s15]; exact b1
    · rw [up_ne (Or.inr (by decide)), up_row s15]; exact b2'
    · rw [up_ne (Or.inr (by decide)), up_row s15]; exact b3
    · rw [up_ne (Or.inr (by decide)), up_row s15]; exact b4
    · rw [up_at, up_at]
    · rw [up_at]; exact ⟨c + 1, by omega, by omega, rfl⟩
    · rw [up_at, ix_n (by omega)] at hj
      rw [up_row (show 63 ≠ 52 by decide), up_row (show 15 ≠ 0 by decide), up_app, up_app, if_pos rfl, if_pos rfl]
      by_cases ej : j = c
      · rw [if_pos ej, if_pos ej]
      · rw [if_neg ej, if_neg ej]; exact t3 j (by rw [hc, ix_n (by omega)]; omega)
    · rw [up_row h1, up_row h2]; exact f1 q h1 h2
    · rw [up_row h1, up_row h2]; exact f2 q h1 h2
    · rw [up_ne (Or.inr (by omega)), up_row s15]; exact f3 j hj
theorem liftsPlain_b {m m' : Mm} (h : Ho mc mr k o w false m m') (j : Nat) (x : Int32) : Both (Ho mc mr k o w false) (fX6_lifts j x m) (fX12_liftsPlain x m') := by
  obtain ⟨m1, m2, q1, q2, h1⟩ := h.begins 10
  unfold fX6_lifts fX12_liftsPlain
  rw [q1, q2, bd_s, bd_s, if_neg (by decide), h1.1.2.1, h1.2.1.2.1]
  exact ⟨_, m1, m2, rfl, rfl, h1⟩
theorem lifts_b {m m' : Mm} (h : Ho mc mr k o w false m m') (hk : k ≤ 5) (x : Int32) : Both (Ho mc mr k o w false) (v_lifts k x m) (fX12_lifts x m') := by
  have e := h.2.1.2.2.2
  unfold v_lifts fX12_lifts
  rw [e]
  rcases (show k = 0 ∨ k = 1 ∨ k = 2 ∨ k = 3 ∨ k = 4 ∨ k = 5 by omega) with rfl | rfl | rfl | rfl | rfl | rfl
  · obtain ⟨r, m1, m2, q1, q2, h1⟩ := liftsPlain_b h 0 x
    rw [if_pos rfl, if_neg (by decide), if_neg (by decide), q1, q2, bd_s]
    exact ⟨r, m1, m2, rfl, rfl, h1⟩
  · obtain ⟨m1, m2, q1, q2, h1⟩ := h.begins 20
    obtain ⟨r, m3, m4, q3, q4, h2⟩ := liftsPlain_b h1 1 x
    rw [if_neg (by decide), if_pos rfl, if_pos (by decide), q2, bd_s, q4, bd_s]
    unfold fX0_lifts
    rw [q1, bd_s, if_neg (by decide), q3, bd_s]
    exact ⟨_, m3, m4, rfl, rfl, h2⟩
  · obtain ⟨r, m1, m2, q1, q2, h1⟩ := liftsPlain_b h 2 x
    rw [if_neg (by decide), if_neg (by decide), if_pos rfl, if_neg (by decide), if_neg (by decide), q1, q2, bd_s]
    exact ⟨r, m1, m2, rfl, rfl, h1⟩
  · obtain ⟨m1, m2, q1, q2, h1⟩ := h.begins 50
    obtain ⟨r, m3, m4, q3, q4, h2⟩ := liftsPlain_b h1 3 x
    rw [if_neg (by decide), if_neg (by decide), if_neg (by decide), if_pos rfl, if_neg (by decide), if_pos (by decide), q2, bd_s, q4, bd_s]
    unfold fX5_lifts
    rw [q1, bd_s, if_neg (by decide), q3, bd_s, h2.1.1, h2.2.1.1]
    exact ⟨_, m3, m4, rfl, rfl, h2⟩
  · obtain ⟨r, m1, m2, q1, q2, h1⟩ := liftsPlain_b h 4 x
    rw [if_neg (by decide), if_neg (by decide), if_neg (by decide), if_neg (by decide), if_pos rfl, if_neg (by decide), if_neg (by decide), q1, q2, bd_s]
    exact ⟨r, m1, m2, rfl, rfl, h1⟩
  · obtain ⟨r, m1, m2, q1, q2, h1⟩ := liftsPlain_b h 5 x
    rw [if_neg (by decide), if_neg (by decide), if_neg (by decide), if_neg (by decide), if_neg (by decide), if_pos rfl, if_neg (by decide), if_neg (by decide), q1, q2, bd_s]
    exact ⟨r, m1, m2, rfl, rfl, h1⟩
theorem groansPlain_b {m m' : Mm} (h : Ho mc mr k o w false m m') (hk : k ≤ 5) (x : Int32) : Both (Ho mc mr k o w false) (fX6_groans k x m) (fX12_groansPlain x m') := by
  obtain ⟨m1, m2, q1, q2, h1⟩ := h.begins 11
  obtain ⟨r, m3, m4, q3, q4, h2⟩ := lifts_b h1 hk x
  unfold fX6_groans fX12_groansPlain
  rw [q1, q2, bd_s, bd_s, if_neg (by decide), q3, q4, bd_s, bd_s, h2.1.1, h2.2.1.1]
  exact ⟨_, m3, m4, rfl, rfl, h2⟩
theorem groans9_b {m m' : Mm} (h : Ho mc mr k o w false m m') (hk : k ≤ 5) (x : Int32) : Both (Ho mc mr k o w false) (fX9_groans k x m) (fX12_groans_16 x m') := by
  obtain ⟨m1, m2, q1, q2, h1⟩ := h.begins 30
  obtain ⟨r, m3, m4, q3, q4, h2⟩ := groansPlain_b h1 hk x
  unfold fX9_groans fX12_groans_16
  rw [q1, q2, bd_s, bd_s, if_neg (by decide), q3, q4, bd_s, bd_s]
  exact ⟨_, m3, m4, rfl, rfl, h2⟩
theorem groans_b {m m' : Mm} (h : Ho mc mr k o w false m m') (hk : k ≤ 5) (x : Int32) : Both (Ho mc mr k o w false) (v_groans k x m) (fX12_groans x m') := by
  have e := h.2.1.2.2.2
  unfold v_groans fX12_groans
  rw [e]
  have plain := groansPlain_b h hk x
  have nine := groans9_b h hk x
  rcases (show k = 0 ∨ k = 1 ∨ k = 2 ∨ k = 3 ∨ k = 4 ∨ k = 5 by omega) with rfl | rfl | rfl | rfl | rfl | rfl
  · obtain ⟨r, m1, m2, q1, q2, h1⟩ := plain
    rw [if_pos rfl, if_neg (by decide), if_neg (by decide), if_neg (by decide), q1, q2, bd_s]
    exact ⟨r, m1, m2, rfl, rfl, h1⟩
  · obtain ⟨r, m1, m2, q1, q2, h1⟩ := plain
    rw [if_neg (by decide), if_pos rfl, if_neg (by decide), if_neg (by decide), if_neg (by decide), q1, q2, bd_s]
    exact ⟨r, m1, m2, rfl, rfl, h1⟩
  · rw [if_neg (by decide), if_neg (by decide), if_pos rfl, if_pos (by decide)]
    exact nine
  · rw [if_neg (by decide), if_neg (by decide), if_neg (by decide), if_pos rfl, if_neg (by decide), if_pos (by decide)]
    exact nine
  · obtain ⟨r, m1, m2, q1, q2, h1⟩ := plain
    rw [if_neg (by decide), if_neg (by decide), if_neg (by decide), if_neg (by decide), if_pos rfl, if_neg (by decide), if_neg (by decide), if_neg (by decide), q1, q2, bd_s]
    exact ⟨r, m1, m2, rfl, rfl, h1⟩
  · obtain ⟨m1, m2, q1, q2, h1⟩ := h.begins 60
    obtain ⟨r, m3, m4, q3, q4, h2⟩ := groansPlain_b h1 hk (x + 4)
    rw [if_neg (by decide), if_neg (by decide), if_neg (by decide), if_neg (by decide), if_neg (by decide), if_pos rfl, if_neg (by decide), if_neg (by decide), if_pos (by decide), q2, bd_s, q4, bd_s]
    unfold fX10_groans
    rw [q1, bd_s, if_neg (by decide), q3, bd_s]
    exact ⟨_, m3, m4, rfl, rfl, h2⟩
/-- both answer; alike, unless a parting by 0 stopped them -/
def Both2 (P : Bool → Mm → Mm → Prop) (fc fr : Option (Int32 × Mm)) : Prop := ∃ r r' b m m', fc = some (r, m) ∧ fr = some (r', m') ∧ P b m m' ∧ (b = false → r = r')
theorem Ho.stop {m m' : Mm} (h : Ho mc mr k o w false m m') : Ho mc mr k o w true (up m 52 9 1) (up m' 0 38 1) := by
  obtain ⟨⟨a1, a2, a3⟩, ⟨b1, b2', b3, b4⟩, ⟨t1, t2, t3⟩, f1, f2, f3⟩ := h
  refine ⟨⟨?_, ?_, up_at⟩, ⟨?_, ?_, up_at, ?_⟩, ⟨?_, ?_, ?_⟩, fun q h1 h2 => ?_, fun q h1 h2 => ?_, fun j hj => ?_⟩
  · rw [up_ne (Or.inr (by decide))]; exact a1
  · rw [up_ne (Or.inr (by decide))]; exact a2
  · rw [up_ne (Or.inr (by decide))]; exact b1
  · rw [up_ne (Or.inr (by decide))]; exact b2'
  · rw [up_ne (Or.inr (by decide))]; exact b4
  · rw [up_ne (Or.inr (by decide)), up_ne (Or.inr (by decide))]; exact t1
  · rw [up_ne (Or.inr (by decide))]; exact t2
  · rw [up_ne (Or.inr (by decide)), up_row (by decide), up_row (by decide)]; exact t3
  · rw [up_row h1]; exact f1 q h1 h2
  · rw [up_row h1]; exact f2 q h1 h2
  · rw [up_ne (Or.inr (by omega))]; exact f3 j hj
theorem partsPlain_b {m m' : Mm} (h : Ho mc mr k o w false m m') (j : Nat) (x : Int32) : Both2 (Ho mc mr k o w) (fX6_parts j x m) (fX12_partsPlain x m') := by
  obtain ⟨m1, m2, q1, q2, h1⟩ := h.begins 12
  unfold fX6_parts fX12_partsPlain
  rw [q1, q2, bd_s, bd_s, if_neg (by decide), h1.1.1, h1.1.2.1, h1.2.1.1, h1.2.1.2.1, h1.2.1.2.2.1, if_pos b2f, lt_v]
  by_cases c : nI o = w
  · rw [if_pos (show w - nI o = 0 by rw [c]; exact Int32.sub_self w), if_pos c, lt_v]
    unfold fX12_partsPlain_30
    rw [gb_1, lt_v, up_at, if_neg (by decide)]
    exact ⟨0, 0, true, _, _, rfl, rfl, h1.stop, fun _ => rfl⟩
  · have n0 : ¬ w - nI o = 0 := by
      intro q
      apply c
      have : w - nI o + nI o = 0 + nI o := by rw [q]
      rw [Int32.sub_add_cancel, Int32.zero_add] at this
      exact this.symm
    rw [if_neg n0, if_neg c]
    unfold fX12_partsPlain_30
    have hs : up m2 0 38 0 = m2 := by
      have e0 : m2 0 38 = 0 := h1.2.1.2.2.1
      unfold up
      rw [← e0, upd_self, upA_self]
    rw [gb_0, lt_v, hs, h1.2.1.1, h1.2.1.2.1, h1.2.1.2.2.1, if_pos b2f]
    unfold gz
    rw [if_neg n0, if_neg n0]
    exact ⟨_, _, false, m1, m2, rfl, rfl, h1, fun _ => rfl⟩
theorem partsHeld_b {m m' : Mm} (h : Ho mc mr k o w false m m') (j : Nat) (x : Int32) : Both2 (Ho mc mr k o w) (fX2_parts j x m) (fX12_partsHeld x m') := by
  obtain ⟨m1, m2, q1, q2, h1⟩ := h.begins 40
  obtain ⟨r, r', b, m3, m4, q3, q4, h2, e⟩ := partsPlain_b h1 j x
  unfold fX2_parts fX12_partsHeld
  rw [q1, q2, bd_s, bd_s, if_neg (by decide), q3, q4, bd_s, bd_s, h2.1.2.1, h2.2.1.2.1]
  exact ⟨_, _, b, m3, m4, rfl, rfl, h2, fun q => by rw [e q]⟩
theorem begins_no {m m' : Mm} (h : Ho mc mr k o w true m m') (a : Int32) : fX3_begins a m = some (0, m) := by
  unfold fX3_begins
  rw [h.1.2.2, if_neg b2t]
theorem parts_b {m m' : Mm} (h : Ho mc mr k o w false m m') (hk : k ≤ 5) (x : Int32) : Both2 (Ho mc mr k o w) (v_parts k x m) (fX12_parts x m') := by
  have e := h.2.1.2.2.2
  unfold v_parts fX12_parts
  rw [e]
  rcases (show k = 0 ∨ k = 1 ∨ k = 2 ∨ k = 3 ∨ k = 4 ∨ k = 5 by omega) with rfl | rfl | rfl | rfl | rfl | rfl
  · obtain ⟨r, r', b, m1, m2, q1, q2, h1, er⟩ := partsPlain_b h 0 x
    rw [if_pos rfl, if_neg (by decide), if_neg (by decide), q1, q2, bd_s]
    exact ⟨r, r', b, m1, m2, rfl, rfl, h1, er⟩
  · obtain ⟨r, r', b, m1, m2, q1, q2, h1, er⟩ := partsPlain_b h 1 x
    rw [if_neg (by decide), if_pos rfl, if_neg (by decide), if_neg (by decide), q1, q2, bd_s]
    exact ⟨r, r', b, m1, m2, rfl, rfl, h1, er⟩
  · obtain ⟨r, r', b, m1, m2, q1, q2, h1, er⟩ := partsPlain_b h 2 x
    rw [if_neg (by decide), if_neg (by decide), if_pos rfl, if_neg (by decide), if_neg (by decide), q1, q2, bd_s]
    exact ⟨r, r', b, m1, m2, rfl, rfl, h1, er⟩
  · obtain ⟨r, r', b, m1, m2, q1, q2, h1, er⟩ := partsPlain_b h 3 x
    rw [if_neg (by decide), if_neg (by decide), if_neg (by decide), if_pos rfl, if_neg (by decide), if_neg (by decide), q1, q2, bd_s]
    exact ⟨r, r', b, m1, m2, rfl, rfl, h1, er⟩
  · obtain ⟨r, r', b, m1, m2, q1, q2, h1, er⟩ := partsHeld_b h 4 x
    rw [if_neg (by decide), if_neg (by decide), if_neg (by decide), if_neg (by decide), if_pos rfl, if_pos (by decide), q1, q2, bd_s]
    exact ⟨r, r', b, m1, m2, rfl, rfl, h1, er⟩
  · obtain ⟨m1, m2, q1, q2, h1⟩ := h.begins 61
    obtain ⟨r, r', b, m3, m4, q3, q4, h2, er⟩ := partsHeld_b h1 5 x
    rw [if_neg (by decide), if_neg (by decide), if_neg (by decide), if_neg (by decide), if_neg (by decide), if_pos rfl, if_neg (by decide), if_pos (by decide), q2, bd_s, q4, bd_s, h2.2.1.2.2.1]
    unfold fX10_parts
    rw [q1, bd_s, if_neg (by decide), q3, bd_s]
    cases b
    · rw [if_pos b2f]
      obtain ⟨r2, m5, m6, q5, q6, h3⟩ := lifts_b h2 hk 1
      have q5' : fX6_lifts 5 1 m3 = some (r2, m5) := q5
      rw [q5', q6, bd_s, bd_s]
      exact ⟨_, _, false, m5, m6, rfl, rfl, h3, fun q => by rw [er rfl]⟩
    · rw [if_neg b2t]
      unfold fX6_lifts
      rw [begins_no h2, bd_s, if_pos rfl, bd_s]
      exact ⟨_, _, true, m3, m4, rfl, rfl, h2, fun q => absurd q (by decide)⟩
theorem wipesPlain_b {m m' : Mm} (h : Ho mc mr k o w false m m') (hk : k ≤ 5) (x : Int32) : Both2 (Ho mc mr k o w) (fX6_wipes k x m) (fX12_wipesPlain x m') := by
  obtain ⟨m1, m2, q1, q2, h1⟩ := h.begins 13
  obtain ⟨r, m3, m4, q3, q4, h2⟩ := groans_b h1 hk x
  obtain ⟨s, s', b, m5, m6, q5, q6, h3, er⟩ := parts_b h2 hk x
  unfold fX6_wipes fX12_wipesPlain
  rw [q1, q2, bd_s, bd_s, if_neg (by decide), q3, q4, bd_s, bd_s, q5, q6, bd_s, bd_s]
  exact ⟨_, _, b, m5, m6, rfl, rfl, h3, fun q => by rw [er q]⟩
theorem wipes_b {m m' : Mm} (h : Ho mc mr k o w false m m') (hk : k ≤ 5) (x : Int32) : Both2 (Ho mc mr k o w) (v_wipes k x m) (fX12_wipes x m') := by
  have e := h.2.1.2.2.2
  unfold v_wipes fX12_wipes
  rw [e]
  rcases (show k = 0 ∨ k = 1 ∨ k = 2 ∨ k = 3 ∨ k = 4 ∨ k = 5 by omega) with rfl | rfl | rfl | rfl | rfl | rfl
  · obtain ⟨r, r', b, m1, m2, q1, q2, h1, er⟩ := wipesPlain_b h hk x
    rw [if_pos rfl, if_neg (by decide), q1, q2, bd_s]
    exact ⟨r, r', b, m1, m2, rfl, rfl, h1, er⟩
  · obtain ⟨r, r', b, m1, m2, q1, q2, h1, er⟩ := wipesPlain_b h hk x
    rw [if_neg (by decide), if_pos rfl, if_neg (by decide), q1, q2, bd_s]
    exact ⟨r, r', b, m1, m2, rfl, rfl, h1, er⟩
  · obtain ⟨r, r', b, m1, m2, q1, q2, h1, er⟩ := wipesPlain_b h hk x
    rw [if_neg (by decide), if_neg (by decide), if_pos rfl, if_neg (by decide), q1, q2, bd_s]
    exact ⟨r, r', b, m1, m2, rfl, rfl, h1, er⟩
  · obtain ⟨m1, m2, q1, q2, h1⟩ := h.begins 51
    obtain ⟨r, r', b, m3, m4, q3, q4, h2, er⟩ := wipesPlain_b h1 hk x
    rw [if_neg (by decide), if_neg (by decide), if_neg (by decide), if_pos rfl, if_pos (by decide), q2, bd_s, q4, bd_s, h2.2.1.2.2.1]
    unfold fX5_wipes
    rw [q1, bd_s, if_neg (by decide), q3, bd_s]
    cases b
    · rw [if_pos b2f, h2.1.1, h2.2.1.1]
      obtain ⟨r2, m5, m6, q5, q6, h3⟩ := groans_b h2 hk (nI o)
      have q5' : fX9_groans 3 (nI o) m3 = some (r2, m5) := q5
      rw [q5', q6, bd_s, bd_s]
      exact ⟨_, _, false, m5, m6, rfl, rfl, h3, fun q => by rw [er rfl]⟩
    · rw [if_neg b2t]
      unfold fX9_groans
      rw [begins_no h2, bd_s, if_pos rfl, bd_s]
      exact ⟨_, _, true, m3, m4, rfl, rfl, h2, fun q => absurd q (by decide)⟩
  · obtain ⟨r, r', b, m1, m2, q1, q2, h1, er⟩ := wipesPlain_b h hk x
    rw [if_neg (by decide), if_neg (by decide), if_neg (by decide), if_neg (by decide), if_pos rfl, if_neg (by decide), q1, q2, bd_s]
    exact ⟨r, r', b, m1, m2, rfl, rfl, h1, er⟩
  · obtain ⟨r, r', b, m1, m2, q1, q2, h1, er⟩ := wipesPlain_b h hk x
    rw [if_neg (by decide), if_neg (by decide), if_neg (by decide), if_neg (by decide), if_neg (by decide), if_pos rfl, if_neg (by decide), q1, q2, bd_s]
    exact ⟨r, r', b, m1, m2, rfl, rfl, h1, er⟩
theorem Both.two {P : Bool → Mm → Mm → Prop} {fc fr : Option (Int32 × Mm)} (h : Both (P false) fc fr) : Both2 P fc fr := by
  obtain ⟨r, m, m', q1, q2, h1⟩ := h
  exact ⟨r, r, false, m, m', q1, q2, h1, fun _ => rfl⟩
end BODY
theorem op_act (a1 a2 a3 : Int32) : Op (fX11_act a1 a2 a3) (fX12_act a1 a2 a3) := by
  intro mc mr hR
  let c0 := up mc 52 11 0
  let r0 := up mr 0 34 0
  have hR0 : RR c0 r0 := by
    obtain ⟨k, tp, w, s, sh, x⟩ := hR.2.2
    refine hR.host (s.of (fun q h1 h2 => up_row (by omega)) (up_row (by decide)) (up_row (by decide)) (up_row (by decide))) (sh.of (fun q h1 h2 => up_row (by omega)) (up_row (by decide)) (up_row (by decide)) (up_row (by decide))) ⟨?_, ?_, fun k hk => ?_⟩ (fun q hq => up_row (by omega)) (fun q k h1 h2 => up_ne (by omega))
    · show up mc 52 11 0 52 11 = up mr 0 34 0 0 34
      rw [up_at, up_at]
    · show Bd 0 30 (up mr 0 34 0 0 34)
      rw [up_at]; exact ⟨0, by decide, by decide, rfl⟩
    · have : r0 0 34 = 0 := up_at
      rw [this, show ix (0 : Int32) = 0 by decide] at hk
      omega
  obtain ⟨n, hn⟩ := hR0.2.1.1
  have h6 := hn.2.1
  unfold fX11_act fX12_act
  show ∃ r mc' mr', lt c0 _ = _ ∧ lt r0 _ = _ ∧ _
  rw [lt_v, lt_v, isShelf_c, isShelf_r, bd_s, bd_s]
  rcases rngC a1 (lo := 0) (hi := 3) (by decide) (by decide) with e | ⟨⟨h, -, h3, rfl⟩, e⟩
  · rw [e, if_pos b2f, if_pos b2f]; exact ⟨0, c0, r0, rfl, rfl, hR0⟩
  have h4 : h < 4 := by omega
  have gh : ∀ {α : Type} (k : Option α), gx (nI h) 4 k = k := fun k => gx_n h4 (by decide)
  have d3 : fX12_isIn (Int32.toInt64 a2) 0 3 r0 = some (b2 (decide (nI 0 ≤ a2) && decide (a2 ≤ nI 3)), r0) := isIn_r r0 rfl rfl rfl
  rw [e, if_neg b2t, if_neg b2t, d3, bd_s]
  rcases rngC a2 (lo := 0) (hi := 3) (by decide) (by decide) with e | ⟨⟨v, -, v3, rfl⟩, e⟩
  · rw [e, if_pos b2f]
    rcases rngF e with k | ⟨k, k2⟩
    · rw [if_pos (show a2 < 0 from k)]; exact ⟨0, c0, r0, rfl, rfl, hR0⟩
    · rw [if_neg (show ¬ a2 < 0 from k), if_pos (show 3 < a2 from k2)]; exact ⟨0, c0, r0, rfl, rfl, hR0⟩
  rw [e, if_neg b2t, if_neg (nI_pos (by omega)), if_neg (show ¬ (3 : Int32) < nI v from nI_nlt (a := 3) v3 (by decide))]
  rcases held_b hR0 hn h4 with ⟨a, b, c, d, q1, q2⟩ | ⟨a, q1, q2⟩ | ⟨o, ho, a, b, c, q1, q2⟩
  · rw [q1, q2, bd_s, bd_s, if_pos rfl, if_neg (show ¬ (2 : Int32) = 1 by decide)]; exact ⟨0, c0, r0, rfl, rfl, hR0⟩
  · rw [q1, q2, bd_s, bd_s, if_pos rfl, if_neg (show ¬ (0 : Int32) = 1 by decide)]; exact ⟨0, c0, r0, rfl, rfl, hR0⟩
  have hK := hn.2.2.2.1 o ho
  obtain ⟨k, k1, k5, hk⟩ := hK.1
  have hG := hR0.1.1
  let w := r0 1 (8 + 5 * o + 2)
  let m1 := up (up (up c0 52 7 (nI o)) 52 8 w) 52 9 0
  let m2 := up (up (up (up r0 0 38 0) 0 35 (nI k)) 0 36 (nI o)) 0 37 w
  have hold : fX3_hold 0 (nI o) c0 = some (k, m1) := by
    unfold fX3_hold
    rw [lt_v, gx_n (by omega) (by decide), ix_n (by omega), up_row (show gp 0 4 ≠ 52 by decide), g_wt hG (by omega), lt_v, lt_v, up_row (show gp 0 2 ≠ 52 by decide), up_row (show gp 0 2 ≠ 52 by decide), up_row (show gp 0 2 ≠ 52 by decide), g_kind hG (by omega), hk, gx_n (by omega) (by decide), ix_n (by omega)]
  have H : Ho c0 r0 k o w false m1 m2 := by
    refine ⟨⟨?_, ?_, up_at⟩, ⟨?_, up_at, ?_, ?_⟩, ⟨?_, ?_, fun j hj => ?_⟩, fun q h1 h2 => ?_, fun q h1 h2 => ?_, fun j hj => ?_⟩
    · simp [m1, up_app]
    · simp [m1, up_app]
    · simp [m2, up_app]
    · simp [m2, up_app]
    · simp [m2, up_app]
    · have := hR0.2.2.2.2.2.2.2.1
      simp [m1, m2, up_app]
      exact this
    · have := hR0.2.2.2.2.2.2.2.2.1
      simp [m2, up_app]
      exact this
    · have e34 : m2 0 34 = r0 0 34 := by simp [m2, up_app]
      rw [e34] at hj
      have := hR0.2.2.2.2.2.2.2.2.2 j hj
      simp [m1, m2, up_app]
      exact this
    · show up (up (up c0 52 7 (nI o)) 52 8 w) 52 9 0 q = _
      rw [up_row h1, up_row h1, up_row h1]
    · show up (up (up (up r0 0 38 0) 0 35 (nI k)) 0 36 (nI o)) 0 37 w q = _
      rw [up_row h1, up_row h1, up_row h1, up_row h1]
    · simp [m2, up_app, show j ≠ 35 by omega, show j ≠ 36 by omega, show j ≠ 37 by omega, show j ≠ 38 by omega]
  have fin : ∀ fc fr, Both2 (Ho c0 r0 k o w) fc fr → ∃ r mc' mr', (bd fc fun r m => fX11_act_145 r m) = some (r, mc') ∧ (bd fr fun r m => fX12_act_123 r m) = some (r, mr') ∧ RR mc' mr' := by
    intro fc fr hb
    obtain ⟨r, r', b, m3, m4, q3, q4, ⟨g1, g2, g3, g4, g5, g6⟩, er⟩ := hb
    have hRR : RR m3 m4 := by
      obtain ⟨kk, tp, ww, s, sh, x⟩ := hR0.2.2
      refine hR0.host (s.of (fun q h1 h2 => g4 q (by omega) (by omega)) (g5 _ (by decide) (by decide)) (g5 _ (by decide) (by decide)) (g5 _ (by decide) (by decide))) (sh.of (fun q h1 h2 => g4 q (by omega) (by omega)) (g5 _ (by decide) (by decide)) (g5 _ (by decide) (by decide)) (g5 _ (by decide) (by decide))) g3 (fun q hq => g4 q (by omega) (by omega)) (fun q k h1 h2 => ?_)
      by_cases h0 : q = 0
      · subst h0; exact g6 k (by omega)
      · rw [g5 q h0 (by omega)]
    rw [q3, q4, bd_s, bd_s]
    unfold fX11_act_145 fX12_act_123
    rw [g1.2.2, g2.2.2.1]
    cases b
    · rw [if_pos b2f, if_pos b2f, er rfl]; exact ⟨_, m3, m4, rfl, rfl, hRR⟩
    · rw [if_neg b2t, if_neg b2t]; exact ⟨_, m3, m4, rfl, rfl, hRR⟩
  rw [q1, q2, bd_s, bd_s, if_neg (show ¬ (1 : Int32) = 0 by decide), if_pos rfl, gh, lt_v, ix_n (show h < 2 ^ 31 by omega), b, hold, bd_s, gn_l (by omega), lt_v, gh, up_row (show 13 ≠ 0 by decide), c, its0 (by omega), bd_s, up_row (show 1 ≠ 0 by decide), hk, lt_v, lt_v, up_row (show 13 ≠ 0 by decide), up_row (show 13 ≠ 0 by decide), up_row (show 13 ≠ 0 by decide), c, its2 (by omega), bd_s, up_row (show 1 ≠ 0 by decide), up_row (show 1 ≠ 0 by decide), up_row (show 1 ≠ 0 by decide)]
  show ∃ r mc' mr', _ ∧ lt m2 _ = _ ∧ _
  rw [lt_v]
  rcases (show v = 0 ∨ v = 1 ∨ v = 2 ∨ v = 3 by omega) with rfl | rfl | rfl | rfl
  · rw [if_pos (show nI 0 = 0 from rfl), if_pos (show nI 0 = 0 from rfl)]
    exact fin _ _ (lifts_b H k5 a3).two
  · rw [if_neg (show ¬ nI 1 = 0 by decide), if_neg (show ¬ nI 1 = 0 by decide), if_pos (show nI 1 = 1 from rfl), if_pos (show nI 1 = 1 from rfl)]
    exact fin _ _ (groans_b H k5 a3).two
  · rw [if_neg (show ¬ nI 2 = 0 by decide), if_neg (show ¬ nI 2 = 0 by decide), if_neg (show ¬ nI 2 = 1 by decide), if_neg (show ¬ nI 2 = 1 by decide), if_pos (show nI 2 = 2 from rfl), if_pos (show nI 2 = 2 from rfl)]
    exact fin _ _ (parts_b H k5 a3)
  · rw [if_neg (show ¬ nI 3 = 0 by decide), if_neg (show ¬ nI 3 = 0 by decide), if_neg (show ¬ nI 3 = 1 by decide), if_neg (show ¬ nI 3 = 1 by decide), if_neg (show ¬ nI 3 = 2 by decide), if_neg (show ¬ nI 3 = 2 by decide)]
    exact fin _ _ (wipes_b H k5 a3)
