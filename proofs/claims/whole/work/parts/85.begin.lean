/-! the memories that the law begins with, and where their cells lie -/
def u4 (v : Int32) : Nat → Int32 := upd (upd (upd (upd (fun _ => 0) 0 v) 1 v) 2 v) 3 v
def gF : Nat → Int32 := fun k => if k = 7 then 12 else if k = 9 then 1 else if k = 10 then (-3) else 0
def mc0 : Mm := fun p => if p = 53 then u4 (-1) else if p = 60 then u4 2 else if 68 ≤ p ∧ p % 13 = 3 then gF else fun _ => 0
def mr0 : Mm := fun p => if p = 1 then upd (upd (fun _ => 0) 2 12) 4 1 else if p = 9 then u4 (-1) else fun _ => 0
theorem mc0_z {p k : Nat} (h : p ≠ 53 ∧ p ≠ 60 ∧ ¬ (68 ≤ p ∧ p % 13 = 3)) : mc0 p k = 0 := by
  unfold mc0
  rw [if_neg h.1, if_neg h.2.1, if_neg h.2.2]
theorem mc0_g {k : Nat} (h : k ≠ 7 ∧ k ≠ 9 ∧ k ≠ 10) : mc0 68 k = 0 := by
  show gF k = 0
  unfold gF
  rw [if_neg h.1, if_neg h.2.1, if_neg h.2.2]
theorem mr0_z {p k : Nat} (h : p ≠ 1 ∧ p ≠ 9) : mr0 p k = 0 := by
  unfold mr0
  rw [if_neg h.1, if_neg h.2]
theorem mr0_1 {k : Nat} (h : k ≠ 2 ∧ k ≠ 4) : mr0 1 k = 0 := by
  show upd (upd (fun _ => 0) 2 12) 4 1 k = 0
  simp [upd, h.1, h.2]
theorem u4_v {v : Int32} {k : Nat} (h : k < 4) : u4 v k = v := by
  unfold u4 upd
  rcases (show k = 0 ∨ k = 1 ∨ k = 2 ∨ k = 3 by omega) with rfl | rfl | rfl | rfl <;> rfl
theorem ix_c0 : ix 0 = 0 := ixc_0
theorem rr0 : RR mc0 mr0 := by
  have s : ∀ k, k ≠ 2 ∧ k ≠ 4 → mr0 1 k = 0 := fun k h => mr0_1 h
  have b0 : ∀ hi, Bd 0 hi (0 : Int32) := fun hi => ⟨0, Nat.le_refl _, Nat.zero_le _, rfl⟩
  refine ⟨⟨⟨⟨?_, ?_, ?_, ?_, ?_⟩, ?_, ?_, ?_, ?_⟩, ⟨?_, ?_, ?_, ?_⟩, ?_, ?_⟩, ⟨⟨0, ?_⟩, ?_, ?_⟩, Or.inl ⟨?_, ?_⟩, ⟨?_, ?_, ?_⟩, ⟨?_, ?_, ?_⟩, ?_, ?_, ⟨?_, ?_, ?_⟩⟩
  · exact (mc0_g (by decide)).trans (s 0 (by decide)).symm
  · exact (mc0_g (by decide)).trans (s 1 (by decide)).symm
  · rfl
  · exact (mc0_g (by decide)).trans (s 3 (by decide)).symm
  · rfl
  · intro w hw o ho
    rw [mc0_z (by unfold gp; omega), s _ (by omega)]
  · intro u hu
    rw [mc0_z (by unfold gp; omega), s _ (by omega)]
  · intro u hu
    rw [mc0_z (by unfold gp; omega), s _ (by omega)]
  · intro u hu
    rw [mc0_z (by unfold gp; omega), s _ (by omega)]
  · rw [mc0_z (by unfold rp; omega), s _ (by omega)]
  · rw [mc0_z (by unfold rp; omega), s _ (by omega)]
  · intro r hr
    rw [s _ (by omega), ix_c0] at hr
    omega
  · intro r hr
    rw [s _ (by omega), ix_c0] at hr
    omega
  · rw [mc0_z (by unfold mp; omega), s _ (by omega)]
  · intro r hr
    rw [mc0_z (by unfold mp; omega), mc0_z (by unfold mp; omega), mc0_z (by unfold mp; omega), s _ (by omega), s _ (by omega), s _ (by omega)]
    exact ⟨rfl, rfl, rfl⟩
  · refine ⟨by rw [s _ (by omega)]; rfl, by omega, ⟨0, 12, by omega, by omega, by omega, by rw [s _ (by omega)]; rfl, rfl⟩, fun o ho => absurd ho (by omega), fun u hu => ?_, fun u hu => ?_, fun u hu => ?_⟩ <;>
    · rw [s _ (by omega)]; exact b0 _
  · refine ⟨by rw [s _ (by omega)]; exact b0 _, by rw [s _ (by omega)]; exact b0 _, fun r hr => ?_⟩
    rw [s _ (by omega), ix_c0] at hr
    omega
  · rw [s _ (by omega)]; exact b0 _
  · exact mc0_z (by omega)
  · exact mr0_z (by omega)
  · rw [mc0_z (by omega), mr0_z (by omega)]
  · rw [mr0_z (by omega)]; exact b0 _
  · intro k hk
    rw [mr0_z (by omega), ix_c0] at hk
    omega
  · rw [mc0_z (by omega), mr0_z (by omega)]
  · rw [mr0_z (by omega)]; exact b0 _
  · intro k hk w hw
    rw [mc0_z (by omega), mr0_z (by omega)]
  · intro t ht
    refine ⟨rfl, Or.inl (u4_v ht), ?_, ?_, fun k hk => ?_⟩
    · rw [mc0_z (by omega), mr0_z (by omega)]
    · rw [mr0_z (by omega)]; exact b0 _
    · rw [mc0_z (by omega), mr0_z (by omega)]
  · intro h hh
    exact Or.inr (Or.inr ⟨u4_v hh, mr0_z (by omega)⟩)
  · rw [mc0_z (by omega), mr0_z (by omega)]
  · rw [mr0_z (by omega)]; exact b0 _
  · intro k hk
    rw [mr0_z (by omega), ix_c0] at hk
    omega
def offC (p : Nat) : Nat := if p < 2 then p else if p < 9 then p + 43 else if p < 14 then p + 31 else if p < 52 then p - 12 else if p < 64 then p + 108 else if p < 68 then p + 27 else if p < 107 then p - 16 else p - 12
def offI (q : Nat) : Nat := if q < 2 then q else if q < 40 then q + 12 else if q < 45 then q - 31 else if q < 52 then q - 43 else if q < 91 then q + 16 else if q < 95 then q - 27 else if q < 160 then q + 12 else q - 108
theorem offC_inv : ∀ p, p < 172 → offI (offC p) = p ∧ offC p < 172 := by decide +kernel
def aC (z : Nat) (st : Nat → Nat) : Nat → Nat := fun p => if p < 1000 then z + offC p else st p
def aR (z : Nat) (st : Nat → Nat) : Nat → Nat := fun p => if p < 1000 then z + p else st p
theorem aC_lt {z : Nat} {st : Nat → Nat} {p : Nat} (h : p < 172) : aC z st p = z + offC p := if_pos (by omega)
theorem aR_lt {z : Nat} {st : Nat → Nat} {p : Nat} (h : p < 16) : aR z st p = z + p := if_pos (by omega)
theorem aC_inj {z : Nat} {st : Nat → Nat} : InjA cN (aC z st) := by
  intro p q hp hq h
  have hp : p < 172 := hp
  have hq : q < 172 := hq
  rw [aC_lt hp, aC_lt hq] at h
  have e : offC p = offC q := Nat.add_left_cancel h
  rw [← (offC_inv p hp).1, e, (offC_inv q hq).1]
theorem aR_inj {z : Nat} {st : Nat → Nat} : InjA rN (aR z st) := by
  intro p q hp hq h
  have hp : p < 16 := hp
  have hq : q < 16 := hq
  rw [aR_lt hp, aR_lt hq] at h
  exact Nat.add_left_cancel h
theorem aC_AW {z : Nat} {st : Nat → Nat} {q : Nat} (h : AW cN (aC z st) q) : z ≤ q ∧ q < z + 172 := by
  obtain ⟨p, hp, rfl⟩ := h
  have hp : p < 172 := hp
  have := (offC_inv p hp).2
  rw [aC_lt hp]
  omega
theorem aR_AW {z : Nat} {st : Nat → Nat} {q : Nat} (h : AW rN (aR z st) q) : z ≤ q ∧ q < z + 16 := by
  obtain ⟨p, hp, rfl⟩ := h
  have hp : p < 16 := hp
  rw [aR_lt hp]
  omega
theorem at_q {D : va_G} {a n : Nat} {c : ClassId} {g g' : Nat → Option Nat} {H : Heap} (h : va_at D vwCl (a, arQ c n g) H) (hg : ∀ j, j < n → g j = g' j) : va_at D vwCl (a, arQ c n g') H := by
  show H[a]? = some (arrV c n fun j => va_rf (g' j))
  refine Eq.trans (show H[a]? = some (arrV c n fun j => va_rf (g j)) from h) ?_
  unfold arrV
  congr 3
  funext j
  show va_rf (g j.val) = va_rf (g' j.val)
  rw [hg j.val j.isLt]
abbrev PAt (D : va_G) (cA : Nat → ClassId) (z : Nat) (st : Nat → Nat) (H : Heap) : Nat → Prop := fun p => va_at D vwCl (aC z st p, cLay cA (aC z st) p (mc0 p)) H
set_option maxRecDepth 100000 in
theorem pc_0 {D : va_G} {cA : Nat → ClassId} {z : Nat} {st : Nat → Nat} {H : Heap} (h : va_P D vwCl (wsR z 172 (eX11_init cA z)) H) : allL (PAt D cA z st H) 12 0 :=
  ⟨(wsR_at (k := 0) h (Nat.le_of_ble_eq_true rfl) : va_at D vwCl (z + 0, cLay cA (aC z st) 0 (mc0 0)) H),
   (wsR_at (k := 1) h (Nat.le_of_ble_eq_true rfl) : va_at D vwCl (z + 1, cLay cA (aC z st) 1 (mc0 1)) H),
   (at_q (wsR_at (k := 45) h (Nat.le_of_ble_eq_true rfl)) (lt_all ⟨rfl, rfl, rfl, rfl, rfl, rfl, trivial⟩) : va_at D vwCl (z + 45, cLay cA (aC z st) 2 (mc0 2)) H),
   (wsR_at (k := 46) h (Nat.le_of_ble_eq_true rfl) : va_at D vwCl (z + 46, cLay cA (aC z st) 3 (mc0 3)) H),
   (wsR_at (k := 47) h (Nat.le_of_ble_eq_true rfl) : va_at D vwCl (z + 47, cLay cA (aC z st) 4 (mc0 4)) H),
   (wsR_at (k := 48) h (Nat.le_of_ble_eq_true rfl) : va_at D vwCl (z + 48, cLay cA (aC z st) 5 (mc0 5)) H),
   (wsR_at (k := 49) h (Nat.le_of_ble_eq_true rfl) : va_at D vwCl (z + 49, cLay cA (aC z st) 6 (mc0 6)) H),
   (wsR_at (k := 50) h (Nat.le_of_ble_eq_true rfl) : va_at D vwCl (z + 50, cLay cA (aC z st) 7 (mc0 7)) H),
   (wsR_at (k := 51) h (Nat.le_of_ble_eq_true rfl) : va_at D vwCl (z + 51, cLay cA (aC z st) 8 (mc0 8)) H),
   (at_q (wsR_at (k := 40) h (Nat.le_of_ble_eq_true rfl)) (lt_all ⟨rfl, rfl, rfl, rfl, trivial⟩) : va_at D vwCl (z + 40, cLay cA (aC z st) 9 (mc0 9)) H),
   (wsR_at (k := 41) h (Nat.le_of_ble_eq_true rfl) : va_at D vwCl (z + 41, cLay cA (aC z st) 10 (mc0 10)) H),
   (wsR_at (k := 42) h (Nat.le_of_ble_eq_true rfl) : va_at D vwCl (z + 42, cLay cA (aC z st) 11 (mc0 11)) H), trivial⟩
set_option maxRecDepth 100000 in
theorem pc_12 {D : va_G} {cA : Nat → ClassId} {z : Nat} {st : Nat → Nat} {H : Heap} (h : va_P D vwCl (wsR z 172 (eX11_init cA z)) H) : allL (PAt D cA z st H) 12 12 :=
  ⟨(wsR_at (k := 43) h (Nat.le_of_ble_eq_true rfl) : va_at D vwCl (z + 43, cLay cA (aC z st) 12 (mc0 12)) H),
   (wsR_at (k := 44) h (Nat.le_of_ble_eq_true rfl) : va_at D vwCl (z + 44, cLay cA (aC z st) 13 (mc0 13)) H),
   (wsR_at (k := 2) h (Nat.le_of_ble_eq_true rfl) : va_at D vwCl (z + 2, cLay cA (aC z st) 14 (mc0 14)) H),
   (wsR_at (k := 3) h (Nat.le_of_ble_eq_true rfl) : va_at D vwCl (z + 3, cLay cA (aC z st) 15 (mc0 15)) H),
   (wsR_at (k := 4) h (Nat.le_of_ble_eq_true rfl) : va_at D vwCl (z + 4, cLay cA (aC z st) 16 (mc0 16)) H),
   (wsR_at (k := 5) h (Nat.le_of_ble_eq_true rfl) : va_at D vwCl (z + 5, cLay cA (aC z st) 17 (mc0 17)) H),
   (wsR_at (k := 6) h (Nat.le_of_ble_eq_true rfl) : va_at D vwCl (z + 6, cLay cA (aC z st) 18 (mc0 18)) H),
   (wsR_at (k := 7) h (Nat.le_of_ble_eq_true rfl) : va_at D vwCl (z + 7, cLay cA (aC z st) 19 (mc0 19)) H),
   (wsR_at (k := 8) h (Nat.le_of_ble_eq_true rfl) : va_at D vwCl (z + 8, cLay cA (aC z st) 20 (mc0 20)) H),
   (wsR_at (k := 9) h (Nat.le_of_ble_eq_true rfl) : va_at D vwCl (z + 9, cLay cA (aC z st) 21 (mc0 21)) H),
   (wsR_at (k := 10) h (Nat.le_of_ble_eq_true rfl) : va_at D vwCl (z + 10, cLay cA (aC z st) 22 (mc0 22)) H),
   (wsR_at (k := 11) h (Nat.le_of_ble_eq_true rfl) : va_at D vwCl (z + 11, cLay cA (aC z st) 23 (mc0 23)) H), trivial⟩
set_option maxRecDepth 100000 in
theorem pc_24 {D : va_G} {cA : Nat → ClassId} {z : Nat} {st : Nat → Nat} {H : Heap} (h : va_P D vwCl (wsR z 172 (eX11_init cA z)) H) : allL (PAt D cA z st H) 12 24 :=
  ⟨(wsR_at (k := 12) h (Nat.le_of_ble_eq_true rfl) : va_at D vwCl (z + 12, cLay cA (aC z st) 24 (mc0 24)) H),
   (wsR_at (k := 13) h (Nat.le_of_ble_eq_true rfl) : va_at D vwCl (z + 13, cLay cA (aC z st) 25 (mc0 25)) H),
   (wsR_at (k := 14) h (Nat.le_of_ble_eq_true rfl) : va_at D vwCl (z + 14, cLay cA (aC z st) 26 (mc0 26)) H),
   (wsR_at (k := 15) h (Nat.le_of_ble_eq_true rfl) : va_at D vwCl (z + 15, cLay cA (aC z st) 27 (mc0 27)) H),
   (wsR_at (k := 16) h (Nat.le_of_ble_eq_true rfl) : va_at D vwCl (z + 16, cLay cA (aC z st) 28 (mc0 28)) H),
   (wsR_at (k := 17) h (Nat.le_of_ble_eq_true rfl) : va_at D vwCl (z + 17, cLay cA (aC z st) 29 (mc0 29)) H),
   (wsR_at (k := 18) h (Nat.le_of_ble_eq_true rfl) : va_at D vwCl (z + 18, cLay cA (aC z st) 30 (mc0 30)) H),
   (wsR_at (k := 19) h (Nat.le_of_ble_eq_true rfl) : va_at D vwCl (z + 19, cLay cA (aC z st) 31 (mc0 31)) H),
   (wsR_at (k := 20) h (Nat.le_of_ble_eq_true rfl) : va_at D vwCl (z + 20, cLay cA (aC z st) 32 (mc0 32)) H),
   (wsR_at (k := 21) h (Nat.le_of_ble_eq_true rfl) : va_at D vwCl (z + 21, cLay cA (aC z st) 33 (mc0 33)) H),
   (wsR_at (k := 22) h (Nat.le_of_ble_eq_true rfl) : va_at D vwCl (z + 22, cLay cA (aC z st) 34 (mc0 34)) H),
   (wsR_at (k := 23) h (Nat.le_of_ble_eq_true rfl) : va_at D vwCl (z + 23, cLay cA (aC z st) 35 (mc0 35)) H), trivial⟩
set_option maxRecDepth 100000 in
theorem pc_36 {D : va_G} {cA : Nat → ClassId} {z : Nat} {st : Nat → Nat} {H : Heap} (h : va_P D vwCl (wsR z 172 (eX11_init cA z)) H) : allL (PAt D cA z st H) 12 36 :=
  ⟨(wsR_at (k := 24) h (Nat.le_of_ble_eq_true rfl) : va_at D vwCl (z + 24, cLay cA (aC z st) 36 (mc0 36)) H),
   (wsR_at (k := 25) h (Nat.le_of_ble_eq_true rfl) : va_at D vwCl (z + 25, cLay cA (aC z st) 37 (mc0 37)) H),
   (wsR_at (k := 26) h (Nat.le_of_ble_eq_true rfl) : va_at D vwCl (z + 26, cLay cA (aC z st) 38 (mc0 38)) H),
   (wsR_at (k := 27) h (Nat.le_of_ble_eq_true rfl) : va_at D vwCl (z + 27, cLay cA (aC z st) 39 (mc0 39)) H),
   (wsR_at (k := 28) h (Nat.le_of_ble_eq_true rfl) : va_at D vwCl (z + 28, cLay cA (aC z st) 40 (mc0 40)) H),
   (wsR_at (k := 29) h (Nat.le_of_ble_eq_true rfl) : va_at D vwCl (z + 29, cLay cA (aC z st) 41 (mc0 41)) H),
   (wsR_at (k := 30) h (Nat.le_of_ble_eq_true rfl) : va_at D vwCl (z + 30, cLay cA (aC z st) 42 (mc0 42)) H),
   (wsR_at (k := 31) h (Nat.le_of_ble_eq_true rfl) : va_at D vwCl (z + 31, cLay cA (aC z st) 43 (mc0 43)) H),
   (wsR_at (k := 32) h (Nat.le_of_ble_eq_true rfl) : va_at D vwCl (z + 32, cLay cA (aC z st) 44 (mc0 44)) H),
   (wsR_at (k := 33) h (Nat.le_of_ble_eq_true rfl) : va_at D vwCl (z + 33, cLay cA (aC z st) 45 (mc0 45)) H),
   (wsR_at (k := 34) h (Nat.le_of_ble_eq_true rfl) : va_at D vwCl (z + 34, cLay cA (aC z st) 46 (mc0 46)) H),
   (wsR_at (k := 35) h (Nat.le_of_ble_eq_true rfl) : va_at D vwCl (z + 35, cLay cA (aC z st) 47 (mc0 47)) H), trivial⟩
set_option maxRecDepth 100000 in
theorem pc_48 {D : va_G} {cA : Nat → ClassId} {z : Nat} {st : Nat → Nat} {H : Heap} (h : va_P D vwCl (wsR z 172 (eX11_init cA z)) H) : allL (PAt D cA z st H) 12 48 :=
  ⟨(wsR_at (k := 36) h (Nat.le_of_ble_eq_true rfl) : va_at D vwCl (z + 36, cLay cA (aC z st) 48 (mc0 48)) H),
   (wsR_at (k := 37) h (Nat.le_of_ble_eq_true rfl) : va_at D vwCl (z + 37, cLay cA (aC z st) 49 (mc0 49)) H),
   (wsR_at (k := 38) h (Nat.le_of_ble_eq_true rfl) : va_at D vwCl (z + 38, cLay cA (aC z st) 50 (mc0 50)) H),
   (wsR_at (k := 39) h (Nat.le_of_ble_eq_true rfl) : va_at D vwCl (z + 39, cLay cA (aC z st) 51 (mc0 51)) H),
   (wsR_at (k := 160) h (Nat.le_of_ble_eq_true rfl) : va_at D vwCl (z + 160, cLay cA (aC z st) 52 (mc0 52)) H),
   (wsR_at (k := 161) h (Nat.le_of_ble_eq_true rfl) : va_at D vwCl (z + 161, cLay cA (aC z st) 53 (mc0 53)) H),
   (wsR_at (k := 162) h (Nat.le_of_ble_eq_true rfl) : va_at D vwCl (z + 162, cLay cA (aC z st) 54 (mc0 54)) H),
   (at_q (wsR_at (k := 163) h (Nat.le_of_ble_eq_true rfl)) (lt_all ⟨rfl, rfl, rfl, rfl, trivial⟩) : va_at D vwCl (z + 163, cLay cA (aC z st) 55 (mc0 55)) H),
   (wsR_at (k := 164) h (Nat.le_of_ble_eq_true rfl) : va_at D vwCl (z + 164, cLay cA (aC z st) 56 (mc0 56)) H),
   (wsR_at (k := 165) h (Nat.le_of_ble_eq_true rfl) : va_at D vwCl (z + 165, cLay cA (aC z st) 57 (mc0 57)) H),
   (wsR_at (k := 166) h (Nat.le_of_ble_eq_true rfl) : va_at D vwCl (z + 166, cLay cA (aC z st) 58 (mc0 58)) H),
   (wsR_at (k := 167) h (Nat.le_of_ble_eq_true rfl) : va_at D vwCl (z + 167, cLay cA (aC z st) 59 (mc0 59)) H), trivial⟩
set_option maxRecDepth 100000 in
theorem pc_60 {D : va_G} {cA : Nat → ClassId} {z : Nat} {st : Nat → Nat} {H : Heap} (h : va_P D vwCl (wsR z 172 (eX11_init cA z)) H) : allL (PAt D cA z st H) 12 60 :=
  ⟨(wsR_at (k := 168) h (Nat.le_of_ble_eq_true rfl) : va_at D vwCl (z + 168, cLay cA (aC z st) 60 (mc0 60)) H),
   (wsR_at (k := 169) h (Nat.le_of_ble_eq_true rfl) : va_at D vwCl (z + 169, cLay cA (aC z st) 61 (mc0 61)) H),
   (wsR_at (k := 170) h (Nat.le_of_ble_eq_true rfl) : va_at D vwCl (z + 170, cLay cA (aC z st) 62 (mc0 62)) H),
   (wsR_at (k := 171) h (Nat.le_of_ble_eq_true rfl) : va_at D vwCl (z + 171, cLay cA (aC z st) 63 (mc0 63)) H),
   (wsR_at (k := 91) h (Nat.le_of_ble_eq_true rfl) : va_at D vwCl (z + 91, cLay cA (aC z st) 64 (mc0 64)) H),
   (at_q (wsR_at (k := 92) h (Nat.le_of_ble_eq_true rfl)) (lt_all ⟨rfl, rfl, rfl, rfl, rfl, trivial⟩) : va_at D vwCl (z + 92, cLay cA (aC z st) 65 (mc0 65)) H),
   (wsR_at (k := 93) h (Nat.le_of_ble_eq_true rfl) : va_at D vwCl (z + 93, cLay cA (aC z st) 66 (mc0 66)) H),
   (wsR_at (k := 94) h (Nat.le_of_ble_eq_true rfl) : va_at D vwCl (z + 94, cLay cA (aC z st) 67 (mc0 67)) H),
   (wsR_at (k := 52) h (Nat.le_of_ble_eq_true rfl) : va_at D vwCl (z + 52, cLay cA (aC z st) 68 (mc0 68)) H),
   (at_q (wsR_at (k := 53) h (Nat.le_of_ble_eq_true rfl)) (lt_all ⟨rfl, rfl, rfl, rfl, rfl, trivial⟩) : va_at D vwCl (z + 53, cLay cA (aC z st) 69 (mc0 69)) H),
   (wsR_at (k := 54) h (Nat.le_of_ble_eq_true rfl) : va_at D vwCl (z + 54, cLay cA (aC z st) 70 (mc0 70)) H),
   (wsR_at (k := 55) h (Nat.le_of_ble_eq_true rfl) : va_at D vwCl (z + 55, cLay cA (aC z st) 71 (mc0 71)) H), trivial⟩
set_option maxRecDepth 100000 in
theorem pc_72 {D : va_G} {cA : Nat → ClassId} {z : Nat} {st : Nat → Nat} {H : Heap} (h : va_P D vwCl (wsR z 172 (eX11_init cA z)) H) : allL (PAt D cA z st H) 12 72 :=
  ⟨(wsR_at (k := 56) h (Nat.le_of_ble_eq_true rfl) : va_at D vwCl (z + 56, cLay cA (aC z st) 72 (mc0 72)) H),
   (wsR_at (k := 57) h (Nat.le_of_ble_eq_true rfl) : va_at D vwCl (z + 57, cLay cA (aC z st) 73 (mc0 73)) H),
   (wsR_at (k := 58) h (Nat.le_of_ble_eq_true rfl) : va_at D vwCl (z + 58, cLay cA (aC z st) 74 (mc0 74)) H),
   (at_q (wsR_at (k := 59) h (Nat.le_of_ble_eq_true rfl)) (lt_all ⟨rfl, rfl, trivial⟩) : va_at D vwCl (z + 59, cLay cA (aC z st) 75 (mc0 75)) H),
   (wsR_at (k := 60) h (Nat.le_of_ble_eq_true rfl) : va_at D vwCl (z + 60, cLay cA (aC z st) 76 (mc0 76)) H),
   (wsR_at (k := 61) h (Nat.le_of_ble_eq_true rfl) : va_at D vwCl (z + 61, cLay cA (aC z st) 77 (mc0 77)) H),
   (wsR_at (k := 62) h (Nat.le_of_ble_eq_true rfl) : va_at D vwCl (z + 62, cLay cA (aC z st) 78 (mc0 78)) H),
   (wsR_at (k := 63) h (Nat.le_of_ble_eq_true rfl) : va_at D vwCl (z + 63, cLay cA (aC z st) 79 (mc0 79)) H),
   (wsR_at (k := 64) h (Nat.le_of_ble_eq_true rfl) : va_at D vwCl (z + 64, cLay cA (aC z st) 80 (mc0 80)) H),
   (wsR_at (k := 65) h (Nat.le_of_ble_eq_true rfl) : va_at D vwCl (z + 65, cLay cA (aC z st) 81 (mc0 81)) H),
   (at_q (wsR_at (k := 66) h (Nat.le_of_ble_eq_true rfl)) (lt_all ⟨rfl, rfl, rfl, rfl, rfl, trivial⟩) : va_at D vwCl (z + 66, cLay cA (aC z st) 82 (mc0 82)) H),
   (wsR_at (k := 67) h (Nat.le_of_ble_eq_true rfl) : va_at D vwCl (z + 67, cLay cA (aC z st) 83 (mc0 83)) H), trivial⟩
set_option maxRecDepth 100000 in
theorem pc_84 {D : va_G} {cA : Nat → ClassId} {z : Nat} {st : Nat → Nat} {H : Heap} (h : va_P D vwCl (wsR z 172 (eX11_init cA z)) H) : allL (PAt D cA z st H) 12 84 :=
  ⟨(wsR_at (k := 68) h (Nat.le_of_ble_eq_true rfl) : va_at D vwCl (z + 68, cLay cA (aC z st) 84 (mc0 84)) H),
   (wsR_at (k := 69) h (Nat.le_of_ble_eq_true rfl) : va_at D vwCl (z + 69, cLay cA (aC z st) 85 (mc0 85)) H),
   (wsR_at (k := 70) h (Nat.le_of_ble_eq_true rfl) : va_at D vwCl (z + 70, cLay cA (aC z st) 86 (mc0 86)) H),
   (wsR_at (k := 71) h (Nat.le_of_ble_eq_true rfl) : va_at D vwCl (z + 71, cLay cA (aC z st) 87 (mc0 87)) H),
   (at_q (wsR_at (k := 72) h (Nat.le_of_ble_eq_true rfl)) (lt_all ⟨rfl, rfl, trivial⟩) : va_at D vwCl (z + 72, cLay cA (aC z st) 88 (mc0 88)) H),
   (wsR_at (k := 73) h (Nat.le_of_ble_eq_true rfl) : va_at D vwCl (z + 73, cLay cA (aC z st) 89 (mc0 89)) H),
   (wsR_at (k := 74) h (Nat.le_of_ble_eq_true rfl) : va_at D vwCl (z + 74, cLay cA (aC z st) 90 (mc0 90)) H),
   (wsR_at (k := 75) h (Nat.le_of_ble_eq_true rfl) : va_at D vwCl (z + 75, cLay cA (aC z st) 91 (mc0 91)) H),
   (wsR_at (k := 76) h (Nat.le_of_ble_eq_true rfl) : va_at D vwCl (z + 76, cLay cA (aC z st) 92 (mc0 92)) H),
   (wsR_at (k := 77) h (Nat.le_of_ble_eq_true rfl) : va_at D vwCl (z + 77, cLay cA (aC z st) 93 (mc0 93)) H),
   (wsR_at (k := 78) h (Nat.le_of_ble_eq_true rfl) : va_at D vwCl (z + 78, cLay cA (aC z st) 94 (mc0 94)) H),
   (at_q (wsR_at (k := 79) h (Nat.le_of_ble_eq_true rfl)) (lt_all ⟨rfl, rfl, rfl, rfl, rfl, trivial⟩) : va_at D vwCl (z + 79, cLay cA (aC z st) 95 (mc0 95)) H), trivial⟩
set_option maxRecDepth 100000 in
theorem pc_96 {D : va_G} {cA : Nat → ClassId} {z : Nat} {st : Nat → Nat} {H : Heap} (h : va_P D vwCl (wsR z 172 (eX11_init cA z)) H) : allL (PAt D cA z st H) 12 96 :=
  ⟨(wsR_at (k := 80) h (Nat.le_of_ble_eq_true rfl) : va_at D vwCl (z + 80, cLay cA (aC z st) 96 (mc0 96)) H),
   (wsR_at (k := 81) h (Nat.le_of_ble_eq_true rfl) : va_at D vwCl (z + 81, cLay cA (aC z st) 97 (mc0 97)) H),
   (wsR_at (k := 82) h (Nat.le_of_ble_eq_true rfl) : va_at D vwCl (z + 82, cLay cA (aC z st) 98 (mc0 98)) H),
   (wsR_at (k := 83) h (Nat.le_of_ble_eq_true rfl) : va_at D vwCl (z + 83, cLay cA (aC z st) 99 (mc0 99)) H),
   (wsR_at (k := 84) h (Nat.le_of_ble_eq_true rfl) : va_at D vwCl (z + 84, cLay cA (aC z st) 100 (mc0 100)) H),
   (at_q (wsR_at (k := 85) h (Nat.le_of_ble_eq_true rfl)) (lt_all ⟨rfl, rfl, trivial⟩) : va_at D vwCl (z + 85, cLay cA (aC z st) 101 (mc0 101)) H),
   (wsR_at (k := 86) h (Nat.le_of_ble_eq_true rfl) : va_at D vwCl (z + 86, cLay cA (aC z st) 102 (mc0 102)) H),
   (wsR_at (k := 87) h (Nat.le_of_ble_eq_true rfl) : va_at D vwCl (z + 87, cLay cA (aC z st) 103 (mc0 103)) H),
   (wsR_at (k := 88) h (Nat.le_of_ble_eq_true rfl) : va_at D vwCl (z + 88, cLay cA (aC z st) 104 (mc0 104)) H),
   (wsR_at (k := 89) h (Nat.le_of_ble_eq_true rfl) : va_at D vwCl (z + 89, cLay cA (aC z st) 105 (mc0 105)) H),
   (wsR_at (k := 90) h (Nat.le_of_ble_eq_true rfl) : va_at D vwCl (z + 90, cLay cA (aC z st) 106 (mc0 106)) H),
   (wsR_at (k := 95) h (Nat.le_of_ble_eq_true rfl) : va_at D vwCl (z + 95, cLay cA (aC z st) 107 (mc0 107)) H), trivial⟩
set_option maxRecDepth 100000 in
theorem pc_108 {D : va_G} {cA : Nat → ClassId} {z : Nat} {st : Nat → Nat} {H : Heap} (h : va_P D vwCl (wsR z 172 (eX11_init cA z)) H) : allL (PAt D cA z st H) 12 108 :=
  ⟨(at_q (wsR_at (k := 96) h (Nat.le_of_ble_eq_true rfl)) (lt_all ⟨rfl, rfl, rfl, rfl, rfl, trivial⟩) : va_at D vwCl (z + 96, cLay cA (aC z st) 108 (mc0 108)) H),
   (wsR_at (k := 97) h (Nat.le_of_ble_eq_true rfl) : va_at D vwCl (z + 97, cLay cA (aC z st) 109 (mc0 109)) H),
   (wsR_at (k := 98) h (Nat.le_of_ble_eq_true rfl) : va_at D vwCl (z + 98, cLay cA (aC z st) 110 (mc0 110)) H),
   (wsR_at (k := 99) h (Nat.le_of_ble_eq_true rfl) : va_at D vwCl (z + 99, cLay cA (aC z st) 111 (mc0 111)) H),
   (wsR_at (k := 100) h (Nat.le_of_ble_eq_true rfl) : va_at D vwCl (z + 100, cLay cA (aC z st) 112 (mc0 112)) H),
   (wsR_at (k := 101) h (Nat.le_of_ble_eq_true rfl) : va_at D vwCl (z + 101, cLay cA (aC z st) 113 (mc0 113)) H),
   (at_q (wsR_at (k := 102) h (Nat.le_of_ble_eq_true rfl)) (lt_all ⟨rfl, rfl, trivial⟩) : va_at D vwCl (z + 102, cLay cA (aC z st) 114 (mc0 114)) H),
   (wsR_at (k := 103) h (Nat.le_of_ble_eq_true rfl) : va_at D vwCl (z + 103, cLay cA (aC z st) 115 (mc0 115)) H),
   (wsR_at (k := 104) h (Nat.le_of_ble_eq_true rfl) : va_at D vwCl (z + 104, cLay cA (aC z st) 116 (mc0 116)) H),
   (wsR_at (k := 105) h (Nat.le_of_ble_eq_true rfl) : va_at D vwCl (z + 105, cLay cA (aC z st) 117 (mc0 117)) H),
   (wsR_at (k := 106) h (Nat.le_of_ble_eq_true rfl) : va_at D vwCl (z + 106, cLay cA (aC z st) 118 (mc0 118)) H),
   (wsR_at (k := 107) h (Nat.le_of_ble_eq_true rfl) : va_at D vwCl (z + 107, cLay cA (aC z st) 119 (mc0 119)) H), trivial⟩
set_option maxRecDepth 100000 in
theorem pc_120 {D : va_G} {cA : Nat → ClassId} {z : Nat} {st : Nat → Nat} {H : Heap} (h : va_P D vwCl (wsR z 172 (eX11_init cA z)) H) : allL (PAt D cA z st H) 12 120 :=
  ⟨(wsR_at (k := 108) h (Nat.le_of_ble_eq_true rfl) : va_at D vwCl (z + 108, cLay cA (aC z st) 120 (mc0 120)) H),
   (at_q (wsR_at (k := 109) h (Nat.le_of_ble_eq_true rfl)) (lt_all ⟨rfl, rfl, rfl, rfl, rfl, trivial⟩) : va_at D vwCl (z + 109, cLay cA (aC z st) 121 (mc0 121)) H),
   (wsR_at (k := 110) h (Nat.le_of_ble_eq_true rfl) : va_at D vwCl (z + 110, cLay cA (aC z st) 122 (mc0 122)) H),
   (wsR_at (k := 111) h (Nat.le_of_ble_eq_true rfl) : va_at D vwCl (z + 111, cLay cA (aC z st) 123 (mc0 123)) H),
   (wsR_at (k := 112) h (Nat.le_of_ble_eq_true rfl) : va_at D vwCl (z + 112, cLay cA (aC z st) 124 (mc0 124)) H),
   (wsR_at (k := 113) h (Nat.le_of_ble_eq_true rfl) : va_at D vwCl (z + 113, cLay cA (aC z st) 125 (mc0 125)) H),
   (wsR_at (k := 114) h (Nat.le_of_ble_eq_true rfl) : va_at D vwCl (z + 114, cLay cA (aC z st) 126 (mc0 126)) H),
   (at_q (wsR_at (k := 115) h (Nat.le_of_ble_eq_true rfl)) (lt_all ⟨rfl, rfl, trivial⟩) : va_at D vwCl (z + 115, cLay cA (aC z st) 127 (mc0 127)) H),
   (wsR_at (k := 116) h (Nat.le_of_ble_eq_true rfl) : va_at D vwCl (z + 116, cLay cA (aC z st) 128 (mc0 128)) H),
   (wsR_at (k := 117) h (Nat.le_of_ble_eq_true rfl) : va_at D vwCl (z + 117, cLay cA (aC z st) 129 (mc0 129)) H),
   (wsR_at (k := 118) h (Nat.le_of_ble_eq_true rfl) : va_at D vwCl (z + 118, cLay cA (aC z st) 130 (mc0 130)) H),
   (wsR_at (k := 119) h (Nat.le_of_ble_eq_true rfl) : va_at D vwCl (z + 119, cLay cA (aC z st) 131 (mc0 131)) H), trivial⟩
set_option maxRecDepth 100000 in
theorem pc_132 {D : va_G} {cA : Nat → ClassId} {z : Nat} {st : Nat → Nat} {H : Heap} (h : va_P D vwCl (wsR z 172 (eX11_init cA z)) H) : allL (PAt D cA z st H) 12 132 :=
  ⟨(wsR_at (k := 120) h (Nat.le_of_ble_eq_true rfl) : va_at D vwCl (z + 120, cLay cA (aC z st) 132 (mc0 132)) H),
   (wsR_at (k := 121) h (Nat.le_of_ble_eq_true rfl) : va_at D vwCl (z + 121, cLay cA (aC z st) 133 (mc0 133)) H),
   (at_q (wsR_at (k := 122) h (Nat.le_of_ble_eq_true rfl)) (lt_all ⟨rfl, rfl, rfl, rfl, rfl, trivial⟩) : va_at D vwCl (z + 122, cLay cA (aC z st) 134 (mc0 134)) H),
   (wsR_at (k := 123) h (Nat.le_of_ble_eq_true rfl) : va_at D vwCl (z + 123, cLay cA (aC z st) 135 (mc0 135)) H),
   (wsR_at (k := 124) h (Nat.le_of_ble_eq_true rfl) : va_at D vwCl (z + 124, cLay cA (aC z st) 136 (mc0 136)) H),
   (wsR_at (k := 125) h (Nat.le_of_ble_eq_true rfl) : va_at D vwCl (z + 125, cLay cA (aC z st) 137 (mc0 137)) H),
   (wsR_at (k := 126) h (Nat.le_of_ble_eq_true rfl) : va_at D vwCl (z + 126, cLay cA (aC z st) 138 (mc0 138)) H),
   (wsR_at (k := 127) h (Nat.le_of_ble_eq_true rfl) : va_at D vwCl (z + 127, cLay cA (aC z st) 139 (mc0 139)) H),
   (at_q (wsR_at (k := 128) h (Nat.le_of_ble_eq_true rfl)) (lt_all ⟨rfl, rfl, trivial⟩) : va_at D vwCl (z + 128, cLay cA (aC z st) 140 (mc0 140)) H),
   (wsR_at (k := 129) h (Nat.le_of_ble_eq_true rfl) : va_at D vwCl (z + 129, cLay cA (aC z st) 141 (mc0 141)) H),
   (wsR_at (k := 130) h (Nat.le_of_ble_eq_true rfl) : va_at D vwCl (z + 130, cLay cA (aC z st) 142 (mc0 142)) H),
   (wsR_at (k := 131) h (Nat.le_of_ble_eq_true rfl) : va_at D vwCl (z + 131, cLay cA (aC z st) 143 (mc0 143)) H), trivial⟩
set_option maxRecDepth 100000 in
theorem pc_144 {D : va_G} {cA : Nat → ClassId} {z : Nat} {st : Nat → Nat} {H : Heap} (h : va_P D vwCl (wsR z 172 (eX11_init cA z)) H) : allL (PAt D cA z st H) 12 144 :=
  ⟨(wsR_at (k := 132) h (Nat.le_of_ble_eq_true rfl) : va_at D vwCl (z + 132, cLay cA (aC z st) 144 (mc0 144)) H),
   (wsR_at (k := 133) h (Nat.le_of_ble_eq_true rfl) : va_at D vwCl (z + 133, cLay cA (aC z st) 145 (mc0 145)) H),
   (wsR_at (k := 134) h (Nat.le_of_ble_eq_true rfl) : va_at D vwCl (z + 134, cLay cA (aC z st) 146 (mc0 146)) H),
   (at_q (wsR_at (k := 135) h (Nat.le_of_ble_eq_true rfl)) (lt_all ⟨rfl, rfl, rfl, rfl, rfl, trivial⟩) : va_at D vwCl (z + 135, cLay cA (aC z st) 147 (mc0 147)) H),
   (wsR_at (k := 136) h (Nat.le_of_ble_eq_true rfl) : va_at D vwCl (z + 136, cLay cA (aC z st) 148 (mc0 148)) H),
   (wsR_at (k := 137) h (Nat.le_of_ble_eq_true rfl) : va_at D vwCl (z + 137, cLay cA (aC z st) 149 (mc0 149)) H),
   (wsR_at (k := 138) h (Nat.le_of_ble_eq_true rfl) : va_at D vwCl (z + 138, cLay cA (aC z st) 150 (mc0 150)) H),
   (wsR_at (k := 139) h (Nat.le_of_ble_eq_true rfl) : va_at D vwCl (z + 139, cLay cA (aC z st) 151 (mc0 151)) H),
   (wsR_at (k := 140) h (Nat.le_of_ble_eq_true rfl) : va_at D vwCl (z + 140, cLay cA (aC z st) 152 (mc0 152)) H),
   (at_q (wsR_at (k := 141) h (Nat.le_of_ble_eq_true rfl)) (lt_all ⟨rfl, rfl, trivial⟩) : va_at D vwCl (z + 141, cLay cA (aC z st) 153 (mc0 153)) H),
   (wsR_at (k := 142) h (Nat.le_of_ble_eq_true rfl) : va_at D vwCl (z + 142, cLay cA (aC z st) 154 (mc0 154)) H),
   (wsR_at (k := 143) h (Nat.le_of_ble_eq_true rfl) : va_at D vwCl (z + 143, cLay cA (aC z st) 155 (mc0 155)) H), trivial⟩
set_option maxRecDepth 100000 in
theorem pc_156 {D : va_G} {cA : Nat → ClassId} {z : Nat} {st : Nat → Nat} {H : Heap} (h : va_P D vwCl (wsR z 172 (eX11_init cA z)) H) : allL (PAt D cA z st H) 12 156 :=
  ⟨(wsR_at (k := 144) h (Nat.le_of_ble_eq_true rfl) : va_at D vwCl (z + 144, cLay cA (aC z st) 156 (mc0 156)) H),
   (wsR_at (k := 145) h (Nat.le_of_ble_eq_true rfl) : va_at D vwCl (z + 145, cLay cA (aC z st) 157 (mc0 157)) H),
   (wsR_at (k := 146) h (Nat.le_of_ble_eq_true rfl) : va_at D vwCl (z + 146, cLay cA (aC z st) 158 (mc0 158)) H),
   (wsR_at (k := 147) h (Nat.le_of_ble_eq_true rfl) : va_at D vwCl (z + 147, cLay cA (aC z st) 159 (mc0 159)) H),
   (at_q (wsR_at (k := 148) h (Nat.le_of_ble_eq_true rfl)) (lt_all ⟨rfl, rfl, rfl, rfl, rfl, trivial⟩) : va_at D vwCl (z + 148, cLay cA (aC z st) 160 (mc0 160)) H),
   (wsR_at (k := 149) h (Nat.le_of_ble_eq_true rfl) : va_at D vwCl (z + 149, cLay cA (aC z st) 161 (mc0 161)) H),
   (wsR_at (k := 150) h (Nat.le_of_ble_eq_true rfl) : va_at D vwCl (z + 150, cLay cA (aC z st) 162 (mc0 162)) H),
   (wsR_at (k := 151) h (Nat.le_of_ble_eq_true rfl) : va_at D vwCl (z + 151, cLay cA (aC z st) 163 (mc0 163)) H),
   (wsR_at (k := 152) h (Nat.le_of_ble_eq_true rfl) : va_at D vwCl (z + 152, cLay cA (aC z st) 164 (mc0 164)) H),
   (wsR_at (k := 153) h (Nat.le_of_ble_eq_true rfl) : va_at D vwCl (z + 153, cLay cA (aC z st) 165 (mc0 165)) H),
   (at_q (wsR_at (k := 154) h (Nat.le_of_ble_eq_true rfl)) (lt_all ⟨rfl, rfl, trivial⟩) : va_at D vwCl (z + 154, cLay cA (aC z st) 166 (mc0 166)) H),
   (wsR_at (k := 155) h (Nat.le_of_ble_eq_true rfl) : va_at D vwCl (z + 155, cLay cA (aC z st) 167 (mc0 167)) H), trivial⟩
set_option maxRecDepth 100000 in
theorem pc_168 {D : va_G} {cA : Nat → ClassId} {z : Nat} {st : Nat → Nat} {H : Heap} (h : va_P D vwCl (wsR z 172 (eX11_init cA z)) H) : allL (PAt D cA z st H) 4 168 :=
  ⟨(wsR_at (k := 156) h (Nat.le_of_ble_eq_true rfl) : va_at D vwCl (z + 156, cLay cA (aC z st) 168 (mc0 168)) H),
   (wsR_at (k := 157) h (Nat.le_of_ble_eq_true rfl) : va_at D vwCl (z + 157, cLay cA (aC z st) 169 (mc0 169)) H),
   (wsR_at (k := 158) h (Nat.le_of_ble_eq_true rfl) : va_at D vwCl (z + 158, cLay cA (aC z st) 170 (mc0 170)) H),
   (wsR_at (k := 159) h (Nat.le_of_ble_eq_true rfl) : va_at D vwCl (z + 159, cLay cA (aC z st) 171 (mc0 171)) H), trivial⟩
theorem pc_all {D : va_G} {cA : Nat → ClassId} {z : Nat} {st : Nat → Nat} {H : Heap} (h : va_P D vwCl (wsR z 172 (eX11_init cA z)) H) : va_P D vwCl (wsOf cLay cN cA (aC z st) mc0) H := by
  intro k q hk
  obtain ⟨h1, rfl⟩ := ws_inv hk
  have h1 : k < 172 := h1
  by_cases c0 : k < 12
  · exact allL_all 12 0 (pc_0 h) k (by omega) (by omega)
  by_cases c1 : k < 24
  · exact allL_all 12 12 (pc_12 h) k (by omega) (by omega)
  by_cases c2 : k < 36
  · exact allL_all 12 24 (pc_24 h) k (by omega) (by omega)
  by_cases c3 : k < 48
  · exact allL_all 12 36 (pc_36 h) k (by omega) (by omega)
  by_cases c4 : k < 60
  · exact allL_all 12 48 (pc_48 h) k (by omega) (by omega)
  by_cases c5 : k < 72
  · exact allL_all 12 60 (pc_60 h) k (by omega) (by omega)
  by_cases c6 : k < 84
  · exact allL_all 12 72 (pc_72 h) k (by omega) (by omega)
  by_cases c7 : k < 96
  · exact allL_all 12 84 (pc_84 h) k (by omega) (by omega)
  by_cases c8 : k < 108
  · exact allL_all 12 96 (pc_96 h) k (by omega) (by omega)
  by_cases c9 : k < 120
  · exact allL_all 12 108 (pc_108 h) k (by omega) (by omega)
  by_cases c10 : k < 132
  · exact allL_all 12 120 (pc_120 h) k (by omega) (by omega)
  by_cases c11 : k < 144
  · exact allL_all 12 132 (pc_132 h) k (by omega) (by omega)
  by_cases c12 : k < 156
  · exact allL_all 12 144 (pc_144 h) k (by omega) (by omega)
  by_cases c13 : k < 168
  · exact allL_all 12 156 (pc_156 h) k (by omega) (by omega)
  by_cases c14 : k < 172
  · exact allL_all 4 168 (pc_168 h) k (by omega) (by omega)
  omega
set_option maxRecDepth 100000 in
theorem pr_0 {D : va_G} {cA : Nat → ClassId} {z : Nat} {st : Nat → Nat} {H : Heap} (h : va_P D vwCl (wsR z 16 (eX12_init cA z)) H) : allL (fun p => va_at D vwCl (aR z st p, rLay cA (aR z st) p (mr0 p)) H) 16 0 :=
  ⟨(wsR_at (k := 0) h (Nat.le_of_ble_eq_true rfl) : va_at D vwCl (z + 0, rLay cA (aR z st) 0 (mr0 0)) H), (wsR_at (k := 1) h (Nat.le_of_ble_eq_true rfl) : va_at D vwCl (z + 1, rLay cA (aR z st) 1 (mr0 1)) H), (wsR_at (k := 2) h (Nat.le_of_ble_eq_true rfl) : va_at D vwCl (z + 2, rLay cA (aR z st) 2 (mr0 2)) H), (wsR_at (k := 3) h (Nat.le_of_ble_eq_true rfl) : va_at D vwCl (z + 3, rLay cA (aR z st) 3 (mr0 3)) H), (wsR_at (k := 4) h (Nat.le_of_ble_eq_true rfl) : va_at D vwCl (z + 4, rLay cA (aR z st) 4 (mr0 4)) H), (wsR_at (k := 5) h (Nat.le_of_ble_eq_true rfl) : va_at D vwCl (z + 5, rLay cA (aR z st) 5 (mr0 5)) H), (wsR_at (k := 6) h (Nat.le_of_ble_eq_true rfl) : va_at D vwCl (z + 6, rLay cA (aR z st) 6 (mr0 6)) H), (wsR_at (k := 7) h (Nat.le_of_ble_eq_true rfl) : va_at D vwCl (z + 7, rLay cA (aR z st) 7 (mr0 7)) H), (wsR_at (k := 8) h (Nat.le_of_ble_eq_true rfl) : va_at D vwCl (z + 8, rLay cA (aR z st) 8 (mr0 8)) H), (wsR_at (k := 9) h (Nat.le_of_ble_eq_true rfl) : va_at D vwCl (z + 9, rLay cA (aR z st) 9 (mr0 9)) H), (wsR_at (k := 10) h (Nat.le_of_ble_eq_true rfl) : va_at D vwCl (z + 10, rLay cA (aR z st) 10 (mr0 10)) H), (wsR_at (k := 11) h (Nat.le_of_ble_eq_true rfl) : va_at D vwCl (z + 11, rLay cA (aR z st) 11 (mr0 11)) H), (wsR_at (k := 12) h (Nat.le_of_ble_eq_true rfl) : va_at D vwCl (z + 12, rLay cA (aR z st) 12 (mr0 12)) H), (wsR_at (k := 13) h (Nat.le_of_ble_eq_true rfl) : va_at D vwCl (z + 13, rLay cA (aR z st) 13 (mr0 13)) H), (wsR_at (k := 14) h (Nat.le_of_ble_eq_true rfl) : va_at D vwCl (z + 14, rLay cA (aR z st) 14 (mr0 14)) H), (wsR_at (k := 15) h (Nat.le_of_ble_eq_true rfl) : va_at D vwCl (z + 15, rLay cA (aR z st) 15 (mr0 15)) H), trivial⟩
theorem pr_all {D : va_G} {cA : Nat → ClassId} {z : Nat} {st : Nat → Nat} {H : Heap} (h : va_P D vwCl (wsR z 16 (eX12_init cA z)) H) : va_P D vwCl (wsOf rLay rN cA (aR z st) mr0) H := by
  intro k q hk
  obtain ⟨h1, rfl⟩ := ws_inv hk
  exact allL_all 16 0 (pr_0 h) k (Nat.zero_le _) h1
