section PUT
variable {mc mr : Mm} {n : Nat} {v : Int32}
theorem RR.put_of (h : RR mc mr) (hn : GymOk (mr 1) n) {o w : Nat} (ho : o < n) (hw : w < 5) (hv : Bd (if w = 0 ∨ w = 2 then 1 else 0) (if w = 0 ∨ w = 1 then 5 else if w = 3 then 2 else 9) v) :
    RR (up mc (gp 0 (2 + w)) o v) (up mr 1 (8 + 5 * o + w) v) :=
  h.gym (n := n) (by rw [up_own]; exact h.1.1.up_of hw (by have := hn.2.1; omega)) (by rw [up_own]; exact hn.put ho hw hv) (fun k hk => by rw [up_own]; exact pk_un (by have := hn.2.1; omega))
    (Ce.rf.up (Or.inr (gymP_in (by omega)))) (Ce.rf.up (Or.inr rfl))
theorem GymOk.other {s : Nat → Int32} (h : GymOk s n) {k : Nat} (hk : k = 3 ∨ k = 4 ∨ k = 5 ∨ k = 6 ∨ k = 7 ∨ 53 ≤ k) : GymOk (upd s k v) n := by
  obtain ⟨h0, h6, ⟨t, e, te, e1, e16, ht, he⟩, hS1, hT, hL, hM⟩ := h
  refine ⟨by rw [pk_un (by omega)]; exact h0, h6, ⟨t, e, te, e1, e16, by rw [pk_un (by omega)]; exact ht, by rw [pk_un (by omega)]; exact he⟩, fun o ho => ?_, fun u hu => by rw [pk_un (by omega)]; exact hT u hu, fun k hk => by rw [pk_un (by omega)]; exact hL k hk, fun k hk => by rw [pk_un (by omega)]; exact hM k hk⟩
  have := hS1 o ho
  unfold SetOk at this ⊢
  rw [pk_un (by omega), pk_un (by omega), pk_un (by omega), pk_un (by omega), pk_un (by omega)]
  exact this
theorem RR.put_tired (h : RR mc mr) (hn : GymOk (mr 1) n) {u : Nat} (hu : u < 3) (hv : Bd 0 9 v) : RR (up mc (gp 0 10) u v) (up mr 1 (38 + u) v) := by
  refine h.gym (n := n) (by rw [up_own]; exact h.1.1.up_tired hu) ?_ (fun k hk => by rw [up_own]; exact pk_un (by omega)) (Ce.rf.up (Or.inr (gymP_in (by omega)))) (Ce.rf.up (Or.inr rfl))
  rw [up_own]
  obtain ⟨h0, h6, ⟨t, e, te, e1, e16, ht, he⟩, hS1, hT, hL, hM⟩ := hn
  refine ⟨by rw [pk_un (by omega)]; exact h0, h6, ⟨t, e, te, e1, e16, by rw [pk_un (by omega)]; exact ht, by rw [pk_un (by omega)]; exact he⟩, fun o ho => ?_, fun u' hu' => ?_, fun k hk => by rw [pk_un (by omega)]; exact hL k hk, fun k hk => by rw [pk_un (by omega)]; exact hM k hk⟩
  · have := hS1 o ho
    unfold SetOk at this ⊢
    rw [pk_un (by omega), pk_un (by omega), pk_un (by omega), pk_un (by omega), pk_un (by omega)]
    exact this
  · rw [u_app]; split
    · exact hv
    · exact hT u' hu'
theorem RR.put_load (h : RR mc mr) (hn : GymOk (mr 1) n) {u : Nat} (hu : u < 6) (hv : Bd 0 9 v) : RR (up mc (gp 0 8) u v) (up mr 1 (41 + u) v) := by
  refine h.gym (n := n) (by rw [up_own]; exact h.1.1.up_load hu) ?_ (fun k hk => by rw [up_own]; exact pk_un (by omega)) (Ce.rf.up (Or.inr (gymP_in (by omega)))) (Ce.rf.up (Or.inr rfl))
  rw [up_own]
  obtain ⟨h0, h6, ⟨t, e, te, e1, e16, ht, he⟩, hS1, hT, hL, hM⟩ := hn
  refine ⟨by rw [pk_un (by omega)]; exact h0, h6, ⟨t, e, te, e1, e16, by rw [pk_un (by omega)]; exact ht, by rw [pk_un (by omega)]; exact he⟩, fun o ho => ?_, fun k hk => by rw [pk_un (by omega)]; exact hT k hk, fun u' hu' => ?_, fun k hk => by rw [pk_un (by omega)]; exact hM k hk⟩
  · have := hS1 o ho
    unfold SetOk at this ⊢
    rw [pk_un (by omega), pk_un (by omega), pk_un (by omega), pk_un (by omega), pk_un (by omega)]
    exact this
  · rw [u_app]; split
    · exact hv
    · exact hL u' hu'
theorem RR.put_taken (h : RR mc mr) (hn : GymOk (mr 1) n) {u : Nat} (hu : u < 6) (hv : Bd 0 65535 v) : RR (up mc (gp 0 9) u v) (up mr 1 (47 + u) v) := by
  refine h.gym (n := n) (by rw [up_own]; exact h.1.1.up_taken hu) ?_ (fun k hk => by rw [up_own]; exact pk_un (by omega)) (Ce.rf.up (Or.inr (gymP_in (by omega)))) (Ce.rf.up (Or.inr rfl))
  rw [up_own]
  obtain ⟨h0, h6, ⟨t, e, te, e1, e16, ht, he⟩, hS1, hT, hL, hM⟩ := hn
  refine ⟨by rw [pk_un (by omega)]; exact h0, h6, ⟨t, e, te, e1, e16, by rw [pk_un (by omega)]; exact ht, by rw [pk_un (by omega)]; exact he⟩, fun o ho => ?_, fun k hk => by rw [pk_un (by omega)]; exact hT k hk, fun k hk => by rw [pk_un (by omega)]; exact hL k hk, fun u' hu' => ?_⟩
  · have := hS1 o ho
    unfold SetOk at this ⊢
    rw [pk_un (by omega), pk_un (by omega), pk_un (by omega), pk_un (by omega), pk_un (by omega)]
    exact this
  · rw [u_app]; split
    · exact hv
    · exact hM u' hu'
theorem RR.put_end (h : RR mc mr) (hn : GymOk (mr 1) n) {x : Nat} (h1 : 1 ≤ x) (h2 : x ≤ 16) (ht : mr 1 1 ≤ nI x) : RR (up mc (gp 0 0) 7 (nI x)) (up mr 1 2 (nI x)) := by
  refine h.gym (n := n) (by rw [up_own]; exact h.1.1.up_fld (k := 7) (by omega)) ?_ (fun k hk => by rw [up_own]; exact pk_un (by omega)) (Ce.rf.up (Or.inr (gymP_in (by omega)))) (Ce.rf.up (Or.inr rfl))
  rw [up_own]
  obtain ⟨h0, h6, ⟨t, e, te, e1, e16, ht1, he⟩, hS1, hT, hL, hM⟩ := hn
  rw [ht1] at ht
  refine ⟨by rw [pk_un (by omega)]; exact h0, h6, ⟨t, x, (nI_leI (by omega) (by omega)).mp ht, h1, h2, by rw [pk_un (by omega)]; exact ht1, pk_us⟩, fun o ho => ?_, fun k hk => by rw [pk_un (by omega)]; exact hT k hk, fun k hk => by rw [pk_un (by omega)]; exact hL k hk, fun k hk => by rw [pk_un (by omega)]; exact hM k hk⟩
  have := hS1 o ho
  unfold SetOk at this ⊢
  rw [pk_un (by omega), pk_un (by omega), pk_un (by omega), pk_un (by omega), pk_un (by omega)]
  exact this
theorem RR.put_chance (h : RR mc mr) (hn : GymOk (mr 1) n) : RR (up mc (gp 0 0) 9 v) (up mr 1 4 v) :=
  h.gym (n := n) (by rw [up_own]; exact h.1.1.up_fld (k := 9) (by omega)) (by rw [up_own]; exact hn.other (by omega)) (fun k hk => by rw [up_own]; exact pk_un (by omega)) (Ce.rf.up (Or.inr (gymP_in (by omega)))) (Ce.rf.up (Or.inr rfl))
theorem RR.same_gym {mc' : Mm} (h : RR mc mr) (hG : GymIs 0 mc' (mr 1)) (f : Fr (gymP 0) mc mc') : RR mc' mr := by
  obtain ⟨n, hn⟩ := h.2.1.1
  exact h.gym hG hn (fun _ _ => rfl) (Ce.of_fr f (fun q k z => Or.inr z)) Ce.rf
theorem RR.steps (h : RR mc mr) : StepsIs 0 mc (mr 1) (ix (mr 1 7)) := h.1.2.1.2.2.2
theorem RR.willR (h : RR mc mr) (hn : GymOk (mr 1) n) {o : Nat} (ho : o < n) : fX12_will (nI o) mr = some (willS (mr 1) o, mr) := by
  have h6 := hn.2.1
  exact will_r (by omega) (hn.2.2.2.1 o ho) h.2.1.2.1 h.steps (ix (mr 1 5)) 0 FL (by omega) (by
    obtain ⟨⟨c, -, c8, hc⟩, -⟩ := h.2.1.2.1; rw [hc, ix_n (by omega)]; unfold FL; omega)
theorem RR.goBy (h : RR mc mr) (hn : GymOk (mr 1) n) {a : Nat} (ha : a ≤ n) (ho : mr 1 1 < mr 1 2) :
    ∃ mc' mr', fX1_goBy 0 (nI a) mc = some (worthS (mr 1) a, mc') ∧ fX12_goesWith (nI a) mr = some (worthS (mr 1) a, mr') ∧ RR mc' mr' ∧ mr' 1 = goS (mr 1) a ∧ GymOk (mr' 1) n ∧ Ce (fun q k => scrC q k ∨ gymP 0 q) mc mc' ∧ Ce (fun q k => scrR q k ∨ q = 1) mr mr' := by
  obtain ⟨mc', q, g, f, d⟩ := goBy_c h.1.1 hn ha h.2.1.2.1 (by decide) h.1.2.1
  have e1 : (up (upA mr 1 (goS (mr 1) a)) 0 13 (doneR (mr 1) a)) 1 = goS (mr 1) a := (up_row (by decide)).trans upA_same
  have hok := hn.go ha ho
  have c1 : Ce (fun q k => scrC q k ∨ gymP 0 q) mc mc' := Ce.of_fr f (fun q k z => Or.inr z)
  have c2 : Ce (fun q k => scrR q k ∨ q = 1) mr (up (upA mr 1 (goS (mr 1) a)) 0 13 (doneR (mr 1) a)) := by
    refine Ce.up (fun q k hq => ?_) (Or.inl (by unfold scrR; omega))
    exact congrFun (upA_ne (fun e => hq (Or.inr e))) k
  refine ⟨mc', _, q, goesWith_r hn ha h.2.1.2.1 h.steps, ?_, e1, by rw [e1]; exact hok, c1, c2⟩
  exact h.gym (by rw [e1]; exact g) (by rw [e1]; exact hok) (fun k hk => by rw [e1]; exact goS_out hn ha (by omega) (by omega) (by omega)) c1 c2
end PUT
/-- both know whether a number is a set's -/
theorem RR.has {mc mr : Mm} {n : Nat} (h : RR mc mr) (hn : GymOk (mr 1) n) (x : Int32) : fX1_has 0 x mc = some (b2 (isS x n), mc) := has_c (h.1.1.1.1.trans hn.1) (by have := hn.2.1; omega) x
theorem op_setOf (a1 a2 : Int32) : Op (fX11_setOf a1 a2) (fX12_setOf a1 a2) := by
  intro mc mr hR
  obtain ⟨n, hn⟩ := hR.2.1.1
  have hG := hR.1.1
  have h6 := hn.2.1
  unfold fX11_setOf fX12_setOf
  rw [hR.has hn, isOne_r hn.1, bd_s, bd_s]
  rcases isS_cases a1 (n := n) (by omega) with e | ⟨e, o, ho, rfl⟩
  · rw [e, if_pos b2f, if_pos b2f]; exact ⟨-1, mc, mr, rfl, rfl, hR⟩
  rw [e, if_neg b2t, if_neg b2t]
  have d1 : fX12_isIn (Int32.toInt64 a2) 0 8 mr = some (b2 (decide (nI 0 ≤ a2) && decide (a2 ≤ nI 8)), mr) := isIn_r mr rfl rfl rfl
  rw [d1, bd_s]
  have hK := hn.2.2.2.1 o ho
  have o6 : o < 6 := by omega
  obtain ⟨t, en, te, e1, e16, ht, he⟩ := hn.2.2.1
  have tp : ¬ mr 1 1 < 0 := by rw [ht]; exact nI_pos (by omega)
  rcases rngC a2 (lo := 0) (hi := 8) (by decide) (by decide) with e | ⟨⟨w, -, w8, rfl⟩, e⟩
  · rw [e, if_pos b2f]
    by_cases c : a2 < 0
    · rw [if_pos c]; exact ⟨-1, mc, mr, rfl, rfl, hR⟩
    · rw [if_neg c]
      by_cases c8 : a2 ≤ 8
      · rw [decide_eq_true (show nI 0 ≤ a2 from Int32.not_lt.mp c), decide_eq_true (show a2 ≤ nI 8 from c8)] at e
        exact absurd e (by decide)
      · rw [if_neg c8]; exact ⟨-1, mc, mr, rfl, rfl, hR⟩
  rw [e, if_neg b2t, if_neg (nI_pos (by omega)), if_pos (show nI w ≤ 8 from nI_le (b := 8) (by omega) (by decide))]
  by_cases c4 : w ≤ 4
  · rw [if_neg (show ¬ (4 : Int32) < nI w from nI_nlt (a := 4) (by omega) (by decide)), gx_n (by omega) (by decide), gx_n o6 (by decide), ix_n (by omega), ix_n (by omega), hG.2.1 w (by omega) o o6]
    have n5 : ¬ nI w = 5 := fun q => by have := (nI_eq (a := w) (b := 5) (by omega) (by decide)).mp q; omega
    have n6 : ¬ nI w = 6 := fun q => by have := (nI_eq (a := w) (b := 6) (by omega) (by decide)).mp q; omega
    have n7 : ¬ nI w = 7 := fun q => by have := (nI_eq (a := w) (b := 7) (by omega) (by decide)).mp q; omega
    have n8 : ¬ nI w = 8 := fun q => by have := (nI_eq (a := w) (b := 8) (by omega) (by decide)).mp q; omega
    rw [if_neg n5, if_neg n6, if_neg n7, if_neg n8]
    unfold fX12_its
    rw [e_one, nI_add, gx_n (by omega) (by decide), ix_n (by omega), bd_s]
    exact ⟨_, mc, mr, rfl, rfl, hR⟩
  rw [if_pos (show (4 : Int32) < nI w from nI_lt (a := 4) (by omega) (by omega))]
  rcases (show w = 5 ∨ w = 6 ∨ w = 7 ∨ w = 8 by omega) with rfl | rfl | rfl | rfl
  · rw [if_pos (show nI 5 = 5 from rfl), if_pos (show nI 5 = 5 from rfl), hG.1.2.1, mayIn_c hG o6 hK tp, may_r o6 hK tp, bd_s, bd_s]
    cases mayS (mr 1) o (mr 1 1)
    · rw [if_pos b2f, if_pos b2f]; exact ⟨_, mc, mr, rfl, rfl, hR⟩
    · rw [if_neg b2t, if_neg b2t]; exact ⟨_, mc, mr, rfl, rfl, hR⟩
  · rw [if_neg (show ¬ nI 6 = 5 by decide), if_neg (show ¬ nI 6 = 5 by decide), if_pos (show nI 6 = 6 from rfl), if_pos (show nI 6 = 6 from rfl), gains_c hG o6 hK, gains_r o6 hK, bd_s, bd_s]
    exact ⟨_, mc, mr, rfl, rfl, hR⟩
  · rw [if_neg (show ¬ nI 7 = 5 by decide), if_neg (show ¬ nI 7 = 6 by decide), if_neg (show ¬ nI 7 = 5 by decide), if_neg (show ¬ nI 7 = 6 by decide), if_pos (show nI 7 = 7 from rfl), if_pos (show nI 7 = 7 from rfl), tires_c hG o6 hK, tires_r o6 hK, bd_s, bd_s]
    exact ⟨_, mc, mr, rfl, rfl, hR⟩
  · rw [if_neg (by decide), if_neg (by decide), if_neg (by decide), if_neg (by decide), if_neg (by decide), if_neg (by decide), if_pos (show nI 8 = 8 from rfl), hR.willR hn ho, bd_s]
    obtain ⟨mc', q, g, f, -⟩ := will_c hG o6 hK hR.2.1.2.1 (by decide) hR.1.2.1
    rw [q, bd_s]
    exact ⟨_, mc', mr, rfl, rfl, hR.same_gym g f⟩
theorem becomes_r {k : Nat} (hk : k < 553) {v : Int32} {m : Mm} : fX12_becomes (nI k) v m = some (m 1 k, up m 1 k v) := by
  unfold fX12_becomes
  rw [gx_n hk (by decide), ix_n (by omega), lt_v, lt_v]
theorem op_remake (a1 a2 : Int32) : Op (fX11_remake a1 a2) (fX12_remake a1 a2) := by
  intro mc mr hR
  obtain ⟨n, hn⟩ := hR.2.1.1
  have hG := hR.1.1
  have h6 := hn.2.1
  unfold fX11_remake fX12_remake
  rw [hR.has hn, isOne_r hn.1, bd_s, bd_s]
  rcases isS_cases a1 (n := n) (by omega) with e | ⟨e, o, ho, rfl⟩
  · rw [e, if_pos b2f, if_pos b2f]; exact ⟨-1, mc, mr, rfl, rfl, hR⟩
  have c1 : fX11_suits 0 a2 mc = some (b2 (decide (nI 1 ≤ a2) && decide (a2 ≤ nI 5)), mc) := suits_c (w := 0) (by decide) a2 mc
  have d1 : fX12_isIn (Int32.toInt64 a2) 1 5 mr = some (b2 (decide (nI 1 ≤ a2) && decide (a2 ≤ nI 5)), mr) := isIn_r mr rfl rfl rfl
  rw [e, if_neg b2t, if_neg b2t, c1, d1, bd_s, bd_s]
  rcases rngC a2 (lo := 1) (hi := 5) (by decide) (by decide) with e | ⟨hb, e⟩
  · rw [e, if_pos b2f, if_pos b2f]; exact ⟨-1, mc, mr, rfl, rfl, hR⟩
  rw [e, if_neg b2t, if_neg b2t, e_one, becomes_r (by omega), bd_s]
  unfold fX1_alterSet
  have g0 : ∀ {α : Type} (k : Option α), gx (0 : Int32) 5 k = k := fun k => gx_n (n := 0) (by decide) (by decide)
  rw [g0, gx_n (by omega) (by decide), ix_n (by omega), show ix (0 : Int32) = 0 by decide, lt_v, lt_v, bd_s, g_of hG (w := 0) (by decide) (by omega)]
  exact ⟨_, _, _, rfl, rfl, hR.put_of hn (w := 0) ho (by decide) hb⟩
theorem op_change (a1 a2 a3 : Int32) : Op (fX11_change a1 a2 a3) (fX12_change a1 a2 a3) := by
  intro mc mr hR
  obtain ⟨n, hn⟩ := hR.2.1.1
  have hG := hR.1.1
  have h6 := hn.2.1
  have bad : ∀ a1 a2 a3, ∃ r mc' mr', some ((-1 : Int32), mc) = some (r, mc') ∧ fX12_change_68 a1 a2 a3 0 mr = some (r, mr') ∧ RR mc' mr' := fun a1 a2 a3 => ⟨-1, mc, mr, rfl, by unfold fX12_change_68; rw [if_pos rfl], hR⟩
  unfold fX11_change fX12_change
  rw [hR.has hn, isOne_r hn.1, bd_s, bd_s]
  rcases isS_cases a1 (n := n) (by omega) with e | ⟨e, o, ho, rfl⟩
  · rw [e, if_pos b2f, if_pos b2f]; exact bad _ _ _
  have d1 : fX12_isIn (Int32.toInt64 a2) 1 4 mr = some (b2 (decide (nI 1 ≤ a2) && decide (a2 ≤ nI 4)), mr) := isIn_r mr rfl rfl rfl
  rw [e, if_neg b2t, if_neg b2t, d1, bd_s]
  rcases rngC a2 (lo := 1) (hi := 4) (by decide) (by decide) with e | ⟨⟨w, w1, w4, rfl⟩, e⟩
  · rw [e, if_pos b2f]
    by_cases c : a2 < 1
    · rw [if_pos c]; exact bad _ _ _
    · rw [if_neg c]
      have c4 : (4 : Int32) < a2 := by
        by_cases c4 : a2 ≤ nI 4
        · rw [decide_eq_true (show nI 1 ≤ a2 from Int32.not_lt.mp c), decide_eq_true c4] at e
          exact absurd e (by decide)
        · exact Int32.not_le.mp c4
      have : fX11_suits a2 a3 mc = some (0, mc) := by
        unfold fX11_suits
        rw [if_neg (show ¬ a2 < 0 by rw [i_lt] at c ⊢; rw [show (1 : Int32).toInt = 1 from rfl] at c; rw [show (0 : Int32).toInt = 0 from rfl]; omega), if_pos c4]
      rw [this, bd_s, if_pos rfl]
      exact bad _ _ _
  rw [e, if_neg b2t, if_neg (show ¬ nI w < 1 from nI_nlt (b := 1) (by omega) (by omega)), suits_c (by omega), bd_s]
  have al : fX1_alterSet 0 (nI o) (nI w) a3 mc = some (mr 1 (8 + 5 * o + w), up mc (gp 0 (2 + w)) o a3) := by
    unfold fX1_alterSet
    rw [gx_n (by omega) (by decide), gx_n (by omega) (by decide), ix_n (by omega), ix_n (by omega), lt_v, lt_v, g_of hG (w := w) (by omega) (by omega)]
  have be : ∀ a3, fX12_change_68 (nI o) (nI w) a3 1 mr = some (mr 1 (8 + 5 * o + w), up mr 1 (8 + 5 * o + w) a3) := by
    intro a3
    unfold fX12_change_68
    rw [if_neg (by decide), e_one, nI_add, becomes_r (by omega), bd_s]
  have go : ∀ ok : Bool, (ok = true → Bd (if w = 0 ∨ w = 2 then 1 else 0) (if w = 0 ∨ w = 1 then 5 else if w = 3 then 2 else 9) a3) →
      ∃ r mc' mr', (if b2 ok = 0 then some (-1, mc) else bd (fX1_alterSet 0 (nI o) (nI w) a3 mc) fun r_10 m_11 => some (r_10, m_11)) = some (r, mc') ∧
        (if b2 ok = 0 then fX12_change_68 (nI o) (nI w) a3 0 mr else fX12_change_68 (nI o) (nI w) a3 1 mr) = some (r, mr') ∧ RR mc' mr' := by
    intro ok hok
    cases ok
    · rw [if_pos b2f, if_pos b2f]; exact bad _ _ _
    · rw [if_neg b2t, if_neg b2t, al, bd_s, be]
      exact ⟨_, _, _, rfl, rfl, hR.put_of hn ho (by omega) (hok rfl)⟩
  rcases (show w = 1 ∨ w = 2 ∨ w = 3 ∨ w = 4 by omega) with rfl | rfl | rfl | rfl
  · rw [if_neg (show ¬ nI 1 = 2 by decide)]
    unfold fX12_change_32
    rw [if_pos (show nI 1 = 1 from rfl)]
    unfold fX12_change_57
    have d2 : fX12_isIn (Int32.toInt64 a3) 0 5 mr = some (b2 (decide (nI 0 ≤ a3) && decide (a3 ≤ nI 5)), mr) := isIn_r mr rfl rfl rfl
    rw [d2, bd_s]
    exact go (decide (nI 0 ≤ a3) && decide (a3 ≤ nI 5)) (fun h => rngB (by decide) (by decide) h)
  · rw [if_pos (show nI 2 = 2 from rfl)]
    unfold fX12_change_32
    rw [if_neg (show ¬ nI 2 = 1 by decide), if_neg (show ¬ nI 2 = 3 by decide)]
    unfold fX12_change_57
    have d2 : fX12_isIn (Int32.toInt64 a3) 1 9 mr = some (b2 (decide (nI 1 ≤ a3) && decide (a3 ≤ nI 9)), mr) := isIn_r mr rfl rfl rfl
    rw [d2, bd_s]
    exact go (decide (nI 1 ≤ a3) && decide (a3 ≤ nI 9)) (fun h => rngB (by decide) (by decide) h)
  · rw [if_neg (show ¬ nI 3 = 2 by decide)]
    unfold fX12_change_32
    rw [if_neg (show ¬ nI 3 = 1 by decide), if_pos (show nI 3 = 3 from rfl)]
    unfold fX12_change_57
    have d2 : fX12_isIn (Int32.toInt64 a3) 0 2 mr = some (b2 (decide (nI 0 ≤ a3) && decide (a3 ≤ nI 2)), mr) := isIn_r mr rfl rfl rfl
    rw [d2, bd_s]
    exact go (decide (nI 0 ≤ a3) && decide (a3 ≤ nI 2)) (fun h => rngB (by decide) (by decide) h)
  · rw [if_neg (show ¬ nI 4 = 2 by decide)]
    unfold fX12_change_32
    rw [if_neg (show ¬ nI 4 = 1 by decide), if_neg (show ¬ nI 4 = 3 by decide)]
    unfold fX12_change_57
    have d2 : fX12_isIn (Int32.toInt64 a3) 0 9 mr = some (b2 (decide (nI 0 ≤ a3) && decide (a3 ≤ nI 9)), mr) := isIn_r mr rfl rfl rfl
    rw [d2, bd_s]
    exact go (decide (nI 0 ≤ a3) && decide (a3 ≤ nI 9)) (fun h => rngB (by decide) (by decide) h)
