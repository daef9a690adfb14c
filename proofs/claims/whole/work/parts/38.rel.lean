/-! how the two memories belong together -/
def MenIs (i : Nat) (m : Mm) (s : Nat → Int32) : Prop := m (mp i 0) 3 = s 6 ∧ ∀ r, r < 6 → m (mp i 1) r = s (85 + 3 * r) ∧ m (mp i 2) r = s (85 + 3 * r + 1) ∧ m (mp i 3) r = s (85 + 3 * r + 2)
def RowOk (s : Nat → Int32) : Prop := (∃ n, GymOk s n) ∧ RulesOk s ∧ Bd 0 6 (s 6)
def GG (m : Mm) (s : Nat → Int32) : Prop := GymIs 0 m s ∧ RulesIs 0 m s ∧ MenIs 0 m s
def KK (m : Mm) (s : Nat → Int32) : Prop := GymIs 1 m s ∧ RulesIs 2 m s ∧ MenIs 1 m s
def KeptIs (mc mr : Mm) : Prop := (mc 0 14 = 0 ∧ mr 0 2 = 0) ∨ (mc 0 14 = 1 ∧ mr 0 2 = 1 ∧ KK mc (mr 2) ∧ RowOk (mr 2))
def TapeIs (mc mr : Mm) : Prop := mc 0 1 = mr 0 5 ∧ Bd 0 200 (mr 0 5) ∧ ∀ k, k < ix (mr 0 5) → ∃ b : Nat, b < 256 ∧ mr 4 k = nI b ∧ mc 1 k = (nI b).toInt8.toInt32
def RowsIs (mc mr : Mm) : Prop := mc 0 13 = mr 0 26 ∧ Bd 0 4 (mr 0 26) ∧ ∀ k, k < 4 → ∀ w, w < 3 → mc (10 + k) w = mr 8 (3 * k + w)
def SheetIs (mc mr : Mm) (t : Nat) : Prop := mc 53 t = mr 9 t ∧ (mr 9 t = -1 ∨ Bd 0 4 (mr 9 t)) ∧ mc 54 t = mr 10 t ∧ Bd 0 40 (mr 10 t) ∧ ∀ k, k < 40 → mc (56 + t) k = mr 11 (40 * t + k)
def SheetsIs (mc mr : Mm) : Prop := ∀ t, t < 4 → SheetIs mc mr t
def ShelfIs (mc mr : Mm) (h : Nat) : Prop :=
  (mc 60 h = 0 ∧ mr 12 h = 1 ∧ mc 61 h = mr 13 h ∧ Bd 0 5 (mr 13 h)) ∨ (mc 60 h = 1 ∧ mr 12 h = 2 ∧ mc 61 h = mr 13 h ∧ mc 62 h = mr 14 h) ∨ (mc 60 h = 2 ∧ mr 12 h = 0)
def ShelvesIs (mc mr : Mm) : Prop := ∀ h, h < 4 → ShelfIs mc mr h
def TraceIs (mc mr : Mm) : Prop := mc 52 11 = mr 0 34 ∧ Bd 0 30 (mr 0 34) ∧ ∀ k, k < ix (mr 0 34) → mc 63 k = mr 15 k
def Rest (mc mr : Mm) : Prop := KeptIs mc mr ∧ TapeIs mc mr ∧ RowsIs mc mr ∧ SheetsIs mc mr ∧ ShelvesIs mc mr ∧ TraceIs mc mr
def RR (mc mr : Mm) : Prop := GG mc (mr 1) ∧ RowOk (mr 1) ∧ Rest mc mr
/-- what is free in the class's memory, and in the reference's -/
def scrC (q k : Nat) : Prop := 94 ≤ q ∨ q = 79 ∨ q = 80 ∨ (q = 68 ∧ k = 10) ∨ (64 ≤ q ∧ q ≤ 67) ∨ (q = 44 ∧ 4 ≤ k) ∨ (24 ≤ q ∧ q ≤ 33) ∨ (q = 52 ∧ k ≠ 11)
def scrR (q k : Nat) : Prop := q = 3 ∨ q = 5 ∨ q = 6 ∨ q = 7 ∨ (q = 0 ∧ k ≠ 2 ∧ k ≠ 5 ∧ k ≠ 26 ∧ k ≠ 34)
def scrG (q k : Nat) : Prop := scrC q k ∨ (68 ≤ q ∧ q ≤ 80) ∨ (14 ≤ q ∧ q ≤ 23) ∨ (44 ≤ q ∧ q ≤ 47)
def Ce (P : Nat → Nat → Prop) (m m' : Mm) : Prop := ∀ q k, ¬ P q k → m' q k = m q k
theorem Ce.rf {P : Nat → Nat → Prop} {m : Mm} : Ce P m m := fun _ _ _ => rfl
theorem Ce.tr {P : Nat → Nat → Prop} {a b c : Mm} (h1 : Ce P a b) (h2 : Ce P b c) : Ce P a c := fun q k h => (h2 q k h).trans (h1 q k h)
theorem Ce.mono {P Q : Nat → Nat → Prop} {a b : Mm} (h : Ce P a b) (e : ∀ q k, P q k → Q q k) : Ce Q a b := fun q k hq => h q k (fun z => hq (e q k z))
theorem Ce.up {P : Nat → Nat → Prop} {a b : Mm} {p j : Nat} {v : Int32} (h : Ce P a b) (hp : P p j) : Ce P a (up b p j v) := fun q k hq => by
  rw [up_ne (by
    by_cases e : q = p
    · exact Or.inr (fun e2 => hq (by rw [e, e2]; exact hp))
    · exact Or.inl e)]
  exact h q k hq
theorem Ce.of_fr {P : Nat → Nat → Prop} {F : Nat → Prop} {a b : Mm} (h : Fr F a b) (e : ∀ q k, F q → P q k) : Ce P a b := fun q k hq => by rw [h q (fun z => hq (e q k z))]
theorem GymIs.of_ce {i : Nat} {m m' : Mm} {s : Nat → Int32} (h : GymIs i m s) (hi : i < 2) (c : Ce scrC m m') : GymIs i m' s := by
  obtain ⟨⟨a, b, d, e, f⟩, h2, h3, h4, h5⟩ := h
  have z : ∀ k j, k < 11 → (k = 0 → j < 10) → m' (gp i k) j = m (gp i k) j := fun k j hk hj => c _ _ (by unfold scrC gp; omega)
  exact ⟨⟨by rw [z 0 3 (by omega) (by omega)]; exact a, by rw [z 0 6 (by omega) (by omega)]; exact b, by rw [z 0 7 (by omega) (by omega)]; exact d, by rw [z 0 8 (by omega) (by omega)]; exact e, by rw [z 0 9 (by omega) (by omega)]; exact f⟩,
    fun w hw o ho => by rw [z (2 + w) o (by omega) (by omega)]; exact h2 w hw o ho, fun u hu => by rw [z 10 u (by omega) (by omega)]; exact h3 u hu, fun k hk => by rw [z 8 k (by omega) (by omega)]; exact h4 k hk, fun k hk => by rw [z 9 k (by omega) (by omega)]; exact h5 k hk⟩
theorem RulesIs.of_ce {j : Nat} {m m' : Mm} {s : Nat → Int32} (h : RulesIs j m s) (hj : j = 0 ∨ j = 2) (c : Ce scrC m m') : RulesIs j m' s :=
  h.of_eq fun k hk => funext fun w => c _ _ (by unfold scrC rp; omega)
theorem MenIs.of_ce {i : Nat} {m m' : Mm} {s : Nat → Int32} (h : MenIs i m s) (hi : i < 2) (c : Ce scrC m m') : MenIs i m' s := by
  obtain ⟨a, b⟩ := h
  refine ⟨by rw [c _ _ (by unfold scrC mp; omega)]; exact a, fun r hr => ?_⟩
  rw [c _ _ (by unfold scrC mp; omega), c _ _ (by unfold scrC mp; omega), c _ _ (by unfold scrC mp; omega)]
  exact b r hr
theorem MenIs.row_eq {i : Nat} {m : Mm} {s s' : Nat → Int32} (h : MenIs i m s) (e : ∀ k, k = 6 ∨ 53 ≤ k → s' k = s k) : MenIs i m s' := by
  obtain ⟨a, b⟩ := h
  refine ⟨by rw [e _ (by omega)]; exact a, fun r hr => ?_⟩
  rw [e _ (by omega), e _ (by omega), e _ (by omega)]
  exact b r hr
theorem Rest.of_eq {mc mr mc' mr' : Mm} (h : Rest mc mr) (c : Ce scrG mc mc') (r : Ce (fun q k => scrR q k ∨ q = 1) mr mr') : Rest mc' mr' := by
  obtain ⟨hk, ⟨t1, t2, t3⟩, ⟨w1, w2, w3⟩, hs, hh, ⟨x1, x2, x3⟩⟩ := h
  have r0 : ∀ k, (k = 2 ∨ k = 5 ∨ k = 26 ∨ k = 34) → mr' 0 k = mr 0 k := fun k hk => r _ _ (by unfold scrR; omega)
  have rq : ∀ q k, (q = 2 ∨ q = 4 ∨ 8 ≤ q) → mr' q k = mr q k := fun q k hq => r _ _ (by unfold scrR; omega)
  have cq : ∀ q k, (q < 14 ∨ (52 < q ∧ q < 64) ∨ (34 ≤ q ∧ q ≤ 43) ∨ (48 ≤ q ∧ q ≤ 51) ∨ (81 ≤ q ∧ q ≤ 91)) → mc' q k = mc q k := fun q k hq => c _ _ (by unfold scrG scrC; omega)
  refine ⟨?_, ⟨?_, ?_, ?_⟩, ⟨?_, ?_, ?_⟩, ?_, ?_, ⟨?_, ?_, ?_⟩⟩
  · rcases hk with ⟨a, b⟩ | ⟨a, b, ⟨k1, k2, k3⟩, k4⟩
    · exact Or.inl ⟨by rw [cq _ _ (by omega)]; exact a, by rw [r0 _ (by omega)]; exact b⟩
    · have e2 : mr' 2 = mr 2 := funext fun k => rq _ _ (by omega)
      refine Or.inr ⟨by rw [cq _ _ (by omega)]; exact a, by rw [r0 _ (by omega)]; exact b, ⟨?_, ?_, ?_⟩, by rw [e2]; exact k4⟩
      · rw [e2]
        exact k1.of_eq (fun k hk k11 k12 => funext fun w => cq _ _ (by unfold gp; omega))
      · rw [e2]
        exact k2.of_eq (fun k hk => funext fun w => cq _ _ (by unfold rp; omega))
      · rw [e2]
        obtain ⟨p, q⟩ := k3
        refine ⟨by rw [cq _ _ (by unfold mp; omega)]; exact p, fun y hy => ?_⟩
        rw [cq _ _ (by unfold mp; omega), cq _ _ (by unfold mp; omega), cq _ _ (by unfold mp; omega)]
        exact q y hy
  · rw [cq _ _ (by omega), r0 _ (by omega)]; exact t1
  · rw [r0 _ (by omega)]; exact t2
  · intro k hk
    rw [r0 _ (by omega)] at hk
    rw [rq _ _ (by omega), cq _ _ (by omega)]
    exact t3 k hk
  · rw [cq _ _ (by omega), r0 _ (by omega)]; exact w1
  · rw [r0 _ (by omega)]; exact w2
  · intro k hk w hw
    rw [rq _ _ (by omega), cq _ _ (by omega)]
    exact w3 k hk w hw
  · intro t ht
    obtain ⟨s1, s2, s3, s4, s5⟩ := hs t ht
    refine ⟨by rw [rq _ _ (by omega), cq _ _ (by omega)]; exact s1, by rw [rq _ _ (by omega)]; exact s2, by rw [rq _ _ (by omega), cq _ _ (by omega)]; exact s3, by rw [rq _ _ (by omega)]; exact s4, fun k hk => ?_⟩
    rw [rq _ _ (by omega), cq _ _ (by omega)]
    exact s5 k hk
  · intro t ht
    have := hh t ht
    unfold ShelfIs at this ⊢
    rw [cq 60 t (by omega), cq 61 t (by omega), cq 62 t (by omega), rq 12 t (by omega), rq 13 t (by omega), rq 14 t (by omega)]
    exact this
  · rw [c _ _ (by unfold scrG scrC; omega), r0 _ (by omega)]; exact x1
  · rw [r0 _ (by omega)]; exact x2
  · intro k hk
    rw [r0 _ (by omega)] at hk
    rw [rq _ _ (by omega), cq _ _ (by omega)]
    exact x3 k hk
theorem GG.of_ce {m m' : Mm} {s : Nat → Int32} (h : GG m s) (c : Ce scrC m m') : GG m' s := ⟨h.1.of_ce (by decide) c, h.2.1.of_ce (Or.inl rfl) c, h.2.2.of_ce (by decide) c⟩
theorem RR.of_eq {mc mr mc' mr' : Mm} (h : RR mc mr) (c : Ce scrC mc mc') (r : Ce scrR mr mr') : RR mc' mr' := by
  have e1 : mr' 1 = mr 1 := funext fun k => r _ _ (by unfold scrR; omega)
  refine ⟨by rw [e1]; exact h.1.of_ce c, by rw [e1]; exact h.2.1, h.2.2.of_eq (c.mono fun q k z => Or.inl z) (r.mono fun q k z => Or.inl z)⟩
/-- the gym became another -/
theorem RR.gym {mc mr mc' mr' : Mm} {n : Nat} (h : RR mc mr) (hG : GymIs 0 mc' (mr' 1)) (hn : GymOk (mr' 1) n) (e : ∀ k, k = 5 ∨ k = 6 ∨ k = 7 ∨ 53 ≤ k → mr' 1 k = mr 1 k)
    (c : Ce (fun q k => scrC q k ∨ gymP 0 q) mc mc') (r : Ce (fun q k => scrR q k ∨ q = 1) mr mr') : RR mc' mr' := by
  obtain ⟨⟨g1, g2, g3⟩, ⟨o1, o2, o3⟩, hr⟩ := h
  have cq : ∀ q k, ¬ scrC q k → ¬ gymP 0 q → mc' q k = mc q k := fun q k h1 h2 => c q k (fun z => z.elim h1 h2)
  refine ⟨⟨hG, ?_, ?_⟩, ⟨⟨n, hn⟩, o2.of_eq (fun k hk => e k (by omega)), by rw [e 6 (by omega)]; exact o3⟩, hr.of_eq (c.mono fun q k z => ?_) r⟩
  · exact (g2.row_eq (fun k hk => e k (by omega))).of_eq (fun k hk => funext fun w => cq _ _ (by unfold scrC rp; omega) (by unfold gymP rp gp; omega))
  · obtain ⟨a, b⟩ := g3.row_eq (fun k hk => e k (by omega))
    refine ⟨by rw [cq _ _ (by unfold scrC mp; omega) (by unfold gymP mp gp; omega)]; exact a, fun r hr => ?_⟩
    rw [cq _ _ (by unfold scrC mp; omega) (by unfold gymP mp gp; omega), cq _ _ (by unfold scrC mp; omega) (by unfold gymP mp gp; omega), cq _ _ (by unfold scrC mp; omega) (by unfold gymP mp gp; omega)]
    exact b r hr
  · rcases z with z | z
    · exact Or.inl z
    · refine Or.inr (Or.inl ?_)
      unfold gymP gp at z
      omega
/-- one call of both: both answer, alike, and still belong together -/
def Op (fc fr : Mm → Option (Int32 × Mm)) : Prop := ∀ mc mr, RR mc mr → ∃ r mc' mr', fc mc = some (r, mc') ∧ fr mr = some (r, mr') ∧ RR mc' mr'
/-! ranges, asked in longs -/
theorem isIn_r {x lo hi : Int32} {a b c : Int64} (m : Mm) (h1 : a = Int32.toInt64 x) (h2 : b = Int32.toInt64 lo) (h3 : c = Int32.toInt64 hi) : fX12_isIn a b c m = some (b2 (decide (lo ≤ x) && decide (x ≤ hi)), m) := by
  have l1 : (lg_cmp a b < 0) = (x < lo) := by
    rw [h1, h2]
    apply propext
    rw [lg_cmp_lt, Int64.lt_iff_toInt_lt, Int32.toInt_toInt64, Int32.toInt_toInt64, Int32.lt_iff_toInt_lt]
  have l2 : (0 < lg_cmp a c) = (hi < x) := by
    rw [h1, h3]
    apply propext
    rw [lg_cmp_gt, Int64.lt_iff_toInt_lt, Int32.toInt_toInt64, Int32.toInt_toInt64, Int32.lt_iff_toInt_lt]
  unfold fX12_isIn
  by_cases c1 : x < lo
  · rw [if_pos (by rw [l1]; exact c1), decide_eq_false (Int32.not_le.mpr c1)]; rfl
  · rw [if_neg (by rw [l1]; exact c1), decide_eq_true (Int32.not_lt.mp c1)]
    by_cases c2 : hi < x
    · rw [if_pos (by rw [l2]; exact c2), decide_eq_false (Int32.not_le.mpr c2)]; rfl
    · rw [if_neg (by rw [l2]; exact c2), decide_eq_true (Int32.not_lt.mp c2)]; rfl
