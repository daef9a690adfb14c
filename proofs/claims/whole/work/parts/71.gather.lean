/-! by when each of a set can be done -/
section GA
variable {n S T : Nat} {mr : Mm}
theorem zero_tb {t : Nat} : (0 : Nat).testBit t = false := Nat.zero_testBit t
/-- the row of minutes up to L, and what the reference finds -/
theorem own_m {s : Nat → Int32} {v : Nat → Nat} {L : Nat} (h6 : n ≤ 6) (hS : S < 2 ^ n) (hTL : T ≤ L + 1) (hL : L < 16) (hv : ∀ o, o < n → ∀ t, (v o).testBit t = true ↔ (T ≤ t ∧ t ≤ L ∧ may1 s o t)) : Own S v ↔ Mtch s n S 0 T (L + 1 - T) S := by
  constructor
  · rintro ⟨f, h1, h2⟩
    refine ⟨f, fun o ho => ?_, fun o o' ho ho' e => h2 o o' ho ho' (by have := tb_lt hS ho; omega) (by have := tb_lt hS ho'; omega) e⟩
    have on := tb_lt hS ho
    obtain ⟨a1, a2, a3⟩ := (hv o on (f o)).mp (h1 o ho (by omega)).2
    exact ⟨on, ho, a1, by omega, zero_tb, a3⟩
  · rintro ⟨f, h1, h2⟩
    refine ⟨f, fun o ho _ => ?_, fun o o' ho ho' _ _ e => h2 o o' ho ho' e⟩
    obtain ⟨a1, -, a3, a4, -, a6⟩ := h1 o ho
    exact ⟨by omega, (hv o a1 (f o)).mpr ⟨a3, by omega, a6⟩⟩
theorem gath_b {E : Nat} (hn : GymOk (mr 1) n) (hT : mr 1 1 = nI T) (hE : mr 1 2 = nI E) (hE16 : E ≤ 16) (hS : S < 2 ^ n) :
    ∀ (d L q q' : Nat) (m : Mm), L + d = E → T ≤ L → d < q → d < q' → GymIs 0 m (mr 1) →
    ∃ r r' f, fX1_gatherBy_14 0 q (nI S) (nI L) m = some (r, upA m (gp 0 12) f) ∧ fX12_gathersBy_18 q' (nI S) (nI L) mr = some (r', mr) ∧
      ((r = -3 ∧ r' = -1) ∨ ∃ u, L ≤ u ∧ u < E ∧ r = nI u ∧ r' = nI u ∧ Mtch (mr 1) n S 0 T (u + 1 - T) S) := by
  have h6 := hn.2.1
  have hp := pow6 h6
  intro d
  induction d with
  | zero =>
    intro L q q' m hd hTL hq hq' hG
    obtain ⟨q, rfl⟩ : ∃ z, q = z + 1 := ⟨q - 1, by omega⟩
    obtain ⟨q', rfl⟩ : ∃ z, q' = z + 1 := ⟨q' - 1, by omega⟩
    rw [fX1_gatherBy_14, fX12_gathersBy_18, hG.1.2.2.1, hE, if_pos (nI_le (by omega) (by omega)), if_pos (nI_le (by omega) (by omega))]
    unfold fX12_gathersBy_44
    rw [hE, if_pos (nI_le (by omega) (by omega))]
    exact ⟨-3, -1, m (gp 0 12), by rw [upA_self], rfl, Or.inl ⟨rfl, rfl⟩⟩
  | succ d ih =>
    intro L q q' m hd hTL hq hq' hG
    obtain ⟨q, rfl⟩ : ∃ z, q = z + 1 := ⟨q - 1, by omega⟩
    obtain ⟨q', rfl⟩ : ∃ z, q' = z + 1 := ⟨q' - 1, by omega⟩
    rw [fX1_gatherBy_14, fX12_gathersBy_18, hG.1.2.2.1, hE, if_neg (nI_ge (by omega) (by omega)), if_neg (nI_ge (by omega) (by omega))]
    obtain ⟨f, v, o1, o2, o3⟩ := openUntil_c (L := L) hn hT (by omega) (by omega) hG
    obtain ⟨b, e1, e2⟩ := eachHasOne_c hn (hG.row12 (f := f)) o2 hS
    obtain ⟨b', c1, c2⟩ := canAll_r (S := S) (U := 0) (L := L) hn hT (by omega) (by decide) (by omega) (by omega)
    have hb : b = b' := Bool.eq_iff_iff.mpr (e2.trans ((own_m h6 hS (by omega) (by omega) o3).trans c2.symm))
    subst hb
    have c1' : fX12_canAll (nI S) (nI L) 0 mr = some (b2 b, mr) := c1
    rw [o1, bd_s, e1, bd_s, c1', bd_s]
    cases b
    · rw [if_pos b2f, if_pos b2f, lt_v, lt_v, p1]
      obtain ⟨r, r', g, q1, q2, q3⟩ := ih (L + 1) q q' (upA m (gp 0 12) f) (by omega) (by omega) (by omega) (by omega) hG.row12
      rw [upA_upA] at q1
      refine ⟨r, r', g, q1, q2, ?_⟩
      rcases q3 with q3 | ⟨u, u1, u2, u3⟩
      · exact Or.inl q3
      · exact Or.inr ⟨u, by omega, u2, u3⟩
    · rw [if_neg b2t, if_neg b2t]
      unfold fX12_gathersBy_44
      rw [hE, if_neg (nI_ge (by omega) (by omega))]
      exact ⟨nI L, nI L, f, rfl, rfl, Or.inr ⟨L, Nat.le_refl _, by omega, rfl, rfl, c2.mp rfl⟩⟩
/-- the same asked of both -/
theorem gathers_b {mc : Mm} (hG : GymIs 0 mc (mr 1)) (hn : GymOk (mr 1) n) (hS : S < 2 ^ n) :
    ∃ r r' f T, mr 1 1 = nI T ∧ T ≤ 16 ∧ fX1_gatherBy 0 (nI S) mc = some (r, upA mc (gp 0 12) f) ∧ fX12_gathersBy (nI S) mr = some (r', mr) ∧
      ((S ≠ 0 ∧ r = -3 ∧ r' = -1) ∨ (S = 0 ∧ r = nI T ∧ r' = nI T) ∨ ∃ u E, S ≠ 0 ∧ T ≤ u ∧ u < E ∧ E ≤ 16 ∧ mr 1 2 = nI E ∧ r = nI u ∧ r' = nI u ∧ Mtch (mr 1) n S 0 T (u + 1 - T) S) := by
  have h6 := hn.2.1
  have hp := pow6 h6
  obtain ⟨t, e, te, e1, e16, ht, he⟩ := hn.2.2.1
  unfold fX1_gatherBy fX12_gathersBy
  by_cases c : S = 0
  · subst c
    rw [if_pos (show nI 0 = 0 from rfl), if_pos (show nI 0 = 0 from rfl), hG.1.2.1, ht]
    exact ⟨nI t, nI t, mc (gp 0 12), t, rfl, by omega, by rw [upA_self], rfl, Or.inr (Or.inl ⟨rfl, rfl, rfl⟩)⟩
  · rw [if_neg (nI_ne0 (by omega) (by omega)), if_neg (nI_ne0 (by omega) (by omega)), lt_v, lt_v, hG.1.2.1, ht]
    obtain ⟨r, r', f, q1, q2, q3⟩ := gath_b hn ht he e16 hS (e - t) t FL FL mc (by omega) (Nat.le_refl _) (by unfold FL; omega) (by unfold FL; omega) hG
    refine ⟨r, r', f, t, rfl, by omega, q1, q2, ?_⟩
    rcases q3 with ⟨a, b⟩ | ⟨u, u1, u2, u3, u4, u5⟩
    · exact Or.inl ⟨c, a, b⟩
    · exact Or.inr (Or.inr ⟨u, e, c, u1, u2, e16, he, u3, u4, u5⟩)
end GA
theorem RR.row12 {mc mr : Mm} {f : Nat → Int32} (h : RR mc mr) : RR (upA mc (gp 0 12) f) mr :=
  h.of_eq (fun q k hq => congrFun (upA_ne (fun e => hq (by rw [e]; unfold scrC gp; omega))) k) Ce.rf
theorem op_gather (a1 : Int32) : Op (fX11_gather a1) (fX12_gather a1) := by
  intro mc mr hR
  obtain ⟨n, hn⟩ := hR.2.1.1
  have h6 := hn.2.1
  have hp := pow6 h6
  unfold fX11_gather fX12_gather
  rw [isSet_r hn.1 h6, isSets_c hR.1.1 hn.1 h6, bd_s, bd_s]
  rcases isS_cases a1 (n := 2 ^ n) (by omega) with e | ⟨e, S, hS, rfl⟩
  · rw [e, if_pos b2f, if_pos b2f]; exact ⟨-1, mc, mr, rfl, rfl, hR⟩
  rw [e, if_neg b2t, if_neg b2t]
  obtain ⟨r, r', f, T, hT, hT16, q1, q2, q3⟩ := gathers_b hR.1.1 hn hS
  rw [q1, q2, bd_s, bd_s]
  rcases q3 with ⟨-, rfl, rfl⟩ | ⟨-, rfl, rfl⟩ | ⟨u, E, -, -, u2, E16, -, rfl, rfl, -⟩
  · rw [if_neg (by decide)]; exact ⟨-3, _, mr, rfl, rfl, hR.row12⟩
  · rw [if_pos (nI_pos' (by omega))]; exact ⟨nI T, _, mr, rfl, rfl, hR.row12⟩
  · rw [if_pos (nI_pos' (by omega))]; exact ⟨nI u, _, mr, rfl, rfl, hR.row12⟩
