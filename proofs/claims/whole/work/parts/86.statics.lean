/-! what stands at the law's entry: the classes, the words, the statics -/
abbrev fLw (k : Nat) (c : Cond) : Prop := (flatC (Jvm.Cond.and given_1 narrow_1))[k]? = some c
section BG
variable {s : State} {args : Array Value}
theorem begin_x (hts : ∀ w ∈ lw_tbl, w.before args s = true) : VX s := by
  refine ⟨fun q hq => ?_, fun C hC => ?_, ?_, ?_, ?_⟩
  · simp only [xNest, List.mem_cons, List.not_mem_nil, or_false] at hq
    rcases hq with rfl | rfl | rfl | rfl | rfl | rfl | rfl | rfl | rfl | rfl | rfl | rfl
    · exact va_Nw.of rfl (hts _ (List.mem_append_right _ (tin_1 _ (List.mem_of_getElem? (i := 80) rfl))))
    · exact va_Nw.of rfl (hts _ (List.mem_append_right _ (tin_1 _ (List.mem_of_getElem? (i := 123) rfl))))
    · exact va_Nw.of rfl (hts _ (List.mem_append_right _ (tin_1 _ (List.mem_of_getElem? (i := 130) rfl))))
    · exact va_Nw.of rfl (hts _ (List.mem_append_right _ (tin_1 _ (List.mem_of_getElem? (i := 137) rfl))))
    · exact va_Nw.of rfl (hts _ (List.mem_append_right _ (tin_1 _ (List.mem_of_getElem? (i := 144) rfl))))
    · exact va_Nw.of rfl (hts _ (List.mem_append_right _ (tin_1 _ (List.mem_of_getElem? (i := 151) rfl))))
    · exact va_Nw.of rfl (hts _ (List.mem_append_right _ (tin_1 _ (List.mem_of_getElem? (i := 158) rfl))))
    · exact va_Nw.of rfl (hts _ (List.mem_append_right _ (tin_1 _ (List.mem_of_getElem? (i := 133) rfl))))
    · exact va_Nw.of rfl (hts _ (List.mem_append_right _ (tin_1 _ (List.mem_of_getElem? (i := 154) rfl))))
    · exact va_Nw.of rfl (hts _ (List.mem_append_right _ (tin_1 _ (List.mem_of_getElem? (i := 147) rfl))))
    · exact va_Nw.of rfl (hts _ (List.mem_append_right _ (tin_1 _ (List.mem_of_getElem? (i := 140) rfl))))
    · exact va_Nw.of rfl (hts _ (List.mem_append_right _ (tin_1 _ (List.mem_of_getElem? (i := 161) rfl))))
  · simp only [xCast, List.mem_cons, List.not_mem_nil, or_false] at hC
    rcases hC with rfl | rfl | rfl | rfl | rfl
    · exact va_Nw.of rfl (hts _ (List.mem_append_right _ (tin_8 _ (List.mem_of_getElem? (i := 72) rfl))))
    · exact va_Nw.of rfl (hts _ (List.mem_append_right _ (tin_8 _ (List.mem_of_getElem? (i := 73) rfl))))
    · exact va_Nw.of rfl (hts _ (List.mem_append_right _ (tin_8 _ (List.mem_of_getElem? (i := 74) rfl))))
    · exact va_Nw.of rfl (hts _ (List.mem_append_right _ (tin_8 _ (List.mem_of_getElem? (i := 75) rfl))))
    · exact va_Nw.of rfl (hts _ (List.mem_append_right _ (tin_8 _ (List.mem_of_getElem? (i := 76) rfl))))
  · exact va_AO.of (hts _ (List.mem_append_right _ (tin_1 _ (List.mem_of_getElem? (i := 121) rfl))))
  · exact va_AO.of (hts _ (List.mem_append_right _ (tin_1 _ (List.mem_of_getElem? (i := 231) rfl))))
  · exact (show (Cond.arrayOver (.array .int)).before args s = true from (hts _ (List.mem_append_right _ (tin_1 _ (List.mem_of_getElem? (i := 119) rfl)))))
theorem begin_c (hts : ∀ w ∈ WL, w.before args s = true) : ∃ D : va_G, ∀ (c : Nat) (q : vw_C), vwCl[c]? = some q → u_Kn s q.1 q.2.1 q.2.2 (D.1 c) (D.2 c) := by
  have h0 : ∀ c : Nat, ∃ d : ClassId × (Nat → Nat), ∀ q : vw_C, vwCl[c]? = some q → u_Kn s q.1 q.2.1 q.2.2 d.1 d.2 := by
    intro c
    by_cases hc : c < 13
    · rcases (show c = 0 ∨ c = 1 ∨ c = 2 ∨ c = 3 ∨ c = 4 ∨ c = 5 ∨ c = 6 ∨ c = 7 ∨ c = 8 ∨ c = 9 ∨ c = 10 ∨ c = 11 ∨ c = 12 by omega) with rfl | rfl | rfl | rfl | rfl | rfl | rfl | rfl | rfl | rfl | rfl | rfl | rfl
      · obtain ⟨a, b, h⟩ := u_known (C := RX0) (T := TX0) (N := 0) (n := 0) hts ws_X0 (hts _ wt_1_129)
        exact ⟨(a, b), fun q hq => by have hq : some ((RX0, TX0, 0) : vw_C) = some q := hq; cases hq; exact h⟩
      · obtain ⟨a, b, h⟩ := u_known (C := RX1) (T := TX1) (N := 13) (n := 13) hts ws_X1 (hts _ wt_1_164)
        exact ⟨(a, b), fun q hq => by have hq : some ((RX1, TX1, 13) : vw_C) = some q := hq; cases hq; exact h⟩
      · obtain ⟨a, b, h⟩ := u_known (C := RX2) (T := TX2) (N := 0) (n := 0) hts ws_X2 (hts _ wt_1_150)
        exact ⟨(a, b), fun q hq => by have hq : some ((RX2, TX2, 0) : vw_C) = some q := hq; cases hq; exact h⟩
      · obtain ⟨a, b, h⟩ := u_known (C := RX3) (T := TX3) (N := 12) (n := 12) hts ws_X3 (hts _ wt_2_39)
        exact ⟨(a, b), fun q hq => by have hq : some ((RX3, TX3, 12) : vw_C) = some q := hq; cases hq; exact h⟩
      · obtain ⟨a, b, h⟩ := u_known (C := RX4) (T := TX4) (N := 9) (n := 9) hts ws_X4 (hts _ wt_1_79)
        exact ⟨(a, b), fun q hq => by have hq : some ((RX4, TX4, 9) : vw_C) = some q := hq; cases hq; exact h⟩
      · obtain ⟨a, b, h⟩ := u_known (C := RX5) (T := TX5) (N := 0) (n := 0) hts ws_X5 (hts _ wt_1_143)
        exact ⟨(a, b), fun q hq => by have hq : some ((RX5, TX5, 0) : vw_C) = some q := hq; cases hq; exact h⟩
      · obtain ⟨a, b, h⟩ := u_known (C := RX6) (T := TX6) (N := 0) (n := 0) hts ws_X6 (hts _ wt_1_122)
        exact ⟨(a, b), fun q hq => by have hq : some ((RX6, TX6, 0) : vw_C) = some q := hq; cases hq; exact h⟩
      · obtain ⟨a, b, h⟩ := u_known (C := RX7) (T := TX7) (N := 12) (n := 12) hts ws_X7 (hts _ wt_1_225)
        exact ⟨(a, b), fun q hq => by have hq : some ((RX7, TX7, 12) : vw_C) = some q := hq; cases hq; exact h⟩
      · obtain ⟨a, b, h⟩ := u_known (C := RX8) (T := TX8) (N := 13) (n := 13) hts ws_X8 (hts _ wt_1_30)
        exact ⟨(a, b), fun q hq => by have hq : some ((RX8, TX8, 13) : vw_C) = some q := hq; cases hq; exact h⟩
      · obtain ⟨a, b, h⟩ := u_known (C := RX9) (T := TX9) (N := 0) (n := 0) hts ws_X9 (hts _ wt_1_136)
        exact ⟨(a, b), fun q hq => by have hq : some ((RX9, TX9, 0) : vw_C) = some q := hq; cases hq; exact h⟩
      · obtain ⟨a, b, h⟩ := u_known (C := RX10) (T := TX10) (N := 0) (n := 0) hts ws_X10 (hts _ wt_1_157)
        exact ⟨(a, b), fun q hq => by have hq : some ((RX10, TX10, 0) : vw_C) = some q := hq; cases hq; exact h⟩
      · obtain ⟨a, b, h⟩ := u_known (C := RX11) (T := TX11) (N := 15) (n := 15) hts ws_X11 (hts _ wt_1_22)
        exact ⟨(a, b), fun q hq => by have hq : some ((RX11, TX11, 15) : vw_C) = some q := hq; cases hq; exact h⟩
      · obtain ⟨a, b, h⟩ := u_known (C := RX12) (T := TX12) (N := 39) (n := 39) hts ws_X12 (hts _ wt_5_167)
        exact ⟨(a, b), fun q hq => by have hq : some ((RX12, TX12, 39) : vw_C) = some q := hq; cases hq; exact h⟩
    · refine ⟨(0, fun _ => 0), fun q hq => ?_⟩
      rw [List.getElem?_eq_none (show vwCl.length ≤ c from Nat.not_lt.mp hc)] at hq
      cases hq
  obtain ⟨ad, had⟩ := Classical.axiomOfChoice h0
  exact ⟨(fun c => (ad c).1, fun c => (ad c).2), had⟩
theorem begin_a {ty : FieldType} (h : (Cond.arrayClass ty).before args s = true) : ∃ c, ArrOfT s c ty ∧ s.vm.findClass ("[" ++ ty.toString) = some c := by
  obtain ⟨cI, k, cc, h1, h2, h3⟩ := Cond.arrayClass_spec h
  exact ⟨cI, fun n z => ⟨fun k h => (by cases h), k, h2, cc, h3⟩, h1⟩
theorem begin_aa (h : (Cond.arrayOver (.array .int)).before args s = true) : ∃ c, ArrOfT s c (.array .int) ∧ va_RA s c (.array .int) := by
  obtain ⟨comp, c, k, h1, h2, h3, h4, h5⟩ := arrayOverA_spec h
  exact ⟨c, fun n z => ⟨fun k h => (by cases h), k, h3, comp, h4⟩, h5⟩
theorem begin_ao {C : String} (h : va_AO C s) : ∃ c, ArrOfT s c (.object C) ∧ va_RA s c (.object C) := by
  obtain ⟨comp, c, k, h1, h2, h3, h4, h5⟩ := Cond.arrayOver_spec h
  exact ⟨c, fun n z => ⟨fun k h => (by cases h), k, h3, comp, h4⟩, ⟨k, comp, h3, h4, h1, h5⟩⟩
theorem begin_k (hts : ∀ w ∈ WL, w.before args s = true) (hx : VX s) : ∃ (D : va_G) (cA : Nat → ClassId), va_K D vwCl (tysOf cA) s := by
  obtain ⟨D, hD⟩ := begin_c hts
  obtain ⟨c0, a0, b0⟩ := begin_a (hts _ wt_1_77)
  obtain ⟨c1, a1, b1⟩ := begin_a (hts _ wt_1_76)
  obtain ⟨c2, a2, b2⟩ := begin_aa hx.2.2.2.2
  obtain ⟨c3, a3, b3⟩ := begin_ao hx.2.2.1
  obtain ⟨c4, a4, b4⟩ := begin_ao hx.2.2.2.1
  refine ⟨D, fun k => if k = 0 then c0 else if k = 1 then c1 else if k = 2 then c2 else if k = 3 then c3 else c4, hD, fun k q hk => ?_⟩
  by_cases h5 : k < 5
  · rcases (show k = 0 ∨ k = 1 ∨ k = 2 ∨ k = 3 ∨ k = 4 by omega) with rfl | rfl | rfl | rfl | rfl
    · have hk : some ((c0, FieldType.int) : ClassId × FieldType) = some q := hk
      cases hk; exact ⟨a0, b0⟩
    · have hk : some ((c1, FieldType.byte) : ClassId × FieldType) = some q := hk
      cases hk; exact ⟨a1, b1⟩
    · have hk : some ((c2, FieldType.array .int) : ClassId × FieldType) = some q := hk
      cases hk; exact ⟨a2, b2⟩
    · have hk : some ((c3, FieldType.object "BenchTowels$Plain") : ClassId × FieldType) = some q := hk
      cases hk; exact ⟨a3, b3⟩
    · have hk : some ((c4, FieldType.object "BenchTowels$Gym") : ClassId × FieldType) = some q := hk
      cases hk; exact ⟨a4, b4⟩
  · rw [List.getElem?_eq_none (show (tysOf _).length ≤ k from Nat.not_lt.mp h5)] at hk
    cases hk
theorem fl_h (hgv : (Jvm.Cond.and given_1 narrow_1).before args s = true) {k : Nat} {c : Cond} (h : fLw k c) : c.before args s = true := flat_of_before _ hgv c (List.mem_of_getElem? h)
def tmW : Term := .string "BenchTowels$Rules" 103
theorem flw_s : ∀ j, j < 144 → fLw (64 + j) (Cond.eq (.elem (.field tmW "java/lang/String" "value" "[B") (.int (Int32.ofNat j))) (.int (sWords.getD j 0))) := by decide +kernel
theorem SF.narrow {N : Nat} {A : Nat → Nat} {B : Nat → Prop} {U : State} {H : Heap} (hAB : ∀ q, AW N A q → B q)
    (h : (va_Z "BenchTowels" "LEAST_OF_SET" "[I" (.ref (A 1000)) B U H ∧ va_T .int (A 1000) 5 (fun j => .int (sLeast j)) B U H) ∧
  (va_Z "BenchTowels" "MOST_OF_SET" "[I" (.ref (A 1001)) B U H ∧ va_T .int (A 1001) 5 (fun j => .int (sMost j)) B U H) ∧
  (va_Z "BenchTowels" "MOST_OF_MACHINE" "[I" (.ref (A 1002)) B U H ∧ va_T .int (A 1002) 2 (fun j => .int (sMach j)) B U H) ∧
  (va_Z "BenchTowels" "IS" "[I" (.ref (A 1003)) B U H ∧ va_T .int (A 1003) 6 (fun j => .int (sIS j)) B U H) ∧
  (va_Nw (.fieldLinkNest "BenchTowels$Rules" 56 "BenchTowels" "IS" "[I" "BenchTowels") U ∧ va_Nw (.methodLinkNest "BenchTowels$Gym" 147 ⟨"BenchTowels", "leastOf", "(I)I"⟩ "BenchTowels") U) ∧
  (vk_R "BenchTowels$Rules" 103 sWordsT (A 1004) U ∧ vk_S 1 [144] [sWords] (fun _ => A 1004) (fun _ => A 1005) B U H) ∧
  (va_Z "java/lang/String" "COMPACT_STRINGS" "Z" (.int 1) B U H ∧ va_Zq "jdk/internal/util/Preconditions" "SIOOBE_FORMATTER" "Ljava/util/function/BiFunction;" B U H)) : SF N A U H := by
  obtain ⟨⟨a1, a2⟩, ⟨b1, b2⟩, ⟨c1, c2⟩, ⟨d1, d2⟩, ⟨e1, e2⟩, ⟨f1, f2⟩, ⟨g1, g2⟩⟩ := h
  exact ⟨⟨a1.narrow hAB, a2.narrow hAB⟩, ⟨b1.narrow hAB, b2.narrow hAB⟩, ⟨c1.narrow hAB, c2.narrow hAB⟩, ⟨d1.narrow hAB, d2.narrow hAB⟩, ⟨e1, e2⟩, ⟨f1, f2.narrow hAB⟩, ⟨g1.narrow hAB, g2.narrow hAB⟩⟩
def TabIs (s : State) (nm : String) (n : Nat) (f : Nat → Int32) (B : Nat → Prop) (t : Nat) : Prop := va_Z "BenchTowels" nm "[I" (.ref t) B s s.heap ∧ va_T .int t n (fun j => .int (f j)) B s s.heap
theorem begin_t (nm : String) (n : Nat) (hn : n < 2 ^ 31) (f : Nat → Int32) {B : Nat → Prop} (hB : ∀ a : Nat, a < s.heap.size → ¬ B a) (hl : (Cond.laysStatic "BenchTowels" nm "[I").before args s = true) (hini : (Cond.initialized "BenchTowels").before args s = true)
    (h1 : (Cond.arrayOf (.static "BenchTowels" nm "[I") .int).before args s = true) (h2 : (Cond.eq (.length (.static "BenchTowels" nm "[I")) (.int (Int32.ofNat n))).before args s = true) (h3 : ∀ j, j < n → (Cond.eq (.elem (.static "BenchTowels" nm "[I") (.int (Int32.ofNat j))) (.int (f j))).before args s = true) : ∃ t, TabIs s nm n f B t := by
  obtain ⟨t, e, T⟩ := va_Tof (f := fun j => .int (f j)) (A := B) hn h1 (va_eqt h2) (fun j hj => va_eqt (h3 j hj)) hB
  exact ⟨t, va_Zref hl hini e hB, T⟩
theorem begin_s (hts : ∀ w ∈ lw_tbl, w.before args s = true) (hgv : (Jvm.Cond.and given_1 narrow_1).before args s = true) : ∃ st : Nat → Nat, ∀ (N : Nat) (A : Nat → Nat), (∀ p, 1000 ≤ p → A p = st p) → (∀ q, AW N A q → s.heap.size ≤ q) → SF N A s s.heap := by
  have hB : ∀ a : Nat, a < s.heap.size → ¬ (fun q : Nat => s.heap.size ≤ q) a := fun a h => Nat.not_le.mpr h
  have hini : (Cond.initialized "BenchTowels").before args s = true := (hts _ (List.mem_append_right _ (tin_1 _ (List.mem_of_getElem? (i := 1) rfl))))
  have k0 : ∀ j, j < 5 → fLw (7 + j) (Cond.eq (.elem (.static "BenchTowels" "LEAST_OF_SET" "[I") (.int (Int32.ofNat j))) (.int (sLeast j))) := by decide +kernel
  obtain ⟨t0, z0, y0⟩ := begin_t "LEAST_OF_SET" 5 (by decide) sLeast hB (hts _ (List.mem_append_right _ (tin_2 _ (List.mem_of_getElem? (i := 149) rfl)))) hini (fl_h hgv (k := 5) (by decide +kernel)) (fl_h hgv (k := 6) (by decide +kernel)) (fun j hj => fl_h hgv (k0 j hj))
  have k1 : ∀ j, j < 5 → fLw (15 + j) (Cond.eq (.elem (.static "BenchTowels" "MOST_OF_SET" "[I") (.int (Int32.ofNat j))) (.int (sMost j))) := by decide +kernel
  obtain ⟨t1, z1, y1⟩ := begin_t "MOST_OF_SET" 5 (by decide) sMost hB (hts _ (List.mem_append_right _ (tin_2 _ (List.mem_of_getElem? (i := 151) rfl)))) hini (fl_h hgv (k := 13) (by decide +kernel)) (fl_h hgv (k := 14) (by decide +kernel)) (fun j hj => fl_h hgv (k1 j hj))
  have k2 : ∀ j, j < 2 → fLw (32 + j) (Cond.eq (.elem (.static "BenchTowels" "MOST_OF_MACHINE" "[I") (.int (Int32.ofNat j))) (.int (sMach j))) := by decide +kernel
  obtain ⟨t2, z2, y2⟩ := begin_t "MOST_OF_MACHINE" 2 (by decide) sMach hB (hts _ (List.mem_append_right _ (tin_3 _ (List.mem_of_getElem? (i := 48) rfl)))) hini (fl_h hgv (k := 30) (by decide +kernel)) (fl_h hgv (k := 31) (by decide +kernel)) (fun j hj => fl_h hgv (k2 j hj))
  have k3 : ∀ j, j < 6 → fLw (23 + j) (Cond.eq (.elem (.static "BenchTowels" "IS" "[I") (.int (Int32.ofNat j))) (.int (sIS j))) := by decide +kernel
  obtain ⟨t3, z3, y3⟩ := begin_t "IS" 6 (by decide) sIS hB (hts _ (List.mem_append_right _ (tin_3 _ (List.mem_of_getElem? (i := 18) rfl)))) hini (fl_h hgv (k := 21) (by decide +kernel)) (fl_h hgv (k := 22) (by decide +kernel)) (fun j hj => fl_h hgv (k3 j hj))
  obtain ⟨adK, adV, hv, he⟩ := vk_Sof (args := args) (s := s) (N := 1) (tm := fun _ => tmW) (len := [144]) (byt := [sWords]) (A := fun q => s.heap.size ≤ q)
    (fun i hi => by rw [show i = 0 by omega]; decide) (fun i hi => fl_h hgv (k := 60) (by decide +kernel)) (fun i hi => fl_h hgv (k := 61) (by decide +kernel)) (fun i hi => fl_h hgv (k := 62) (by decide +kernel))
    (fun i hi => by rw [show i = 0 by omega]; exact fl_h hgv (k := 63) (by decide +kernel)) (fun i hi j hj => by
      obtain rfl : i = 0 := by omega
      exact fl_h hgv (flw_s j hj)) (fun i j hi hj h => absurd (show i = j by omega) h) hB
  have hz : va_Z "java/lang/String" "COMPACT_STRINGS" "Z" (.int 1) (fun q => s.heap.size ≤ q) s s.heap := va_Zof (hts _ (List.mem_append_right _ (tin_3 _ (List.mem_of_getElem? (i := 129) rfl)))) (hts _ (List.mem_append_right _ (tin_1 _ (List.mem_of_getElem? (i := 14) rfl)))) (va_eqi (fl_h hgv (k := 34) (by decide +kernel))) hB
  have hq : va_Zq "jdk/internal/util/Preconditions" "SIOOBE_FORMATTER" "Ljava/util/function/BiFunction;" (fun q => s.heap.size ≤ q) s s.heap := va_Zqof (hts _ (List.mem_append_right _ (tin_3 _ (List.mem_of_getElem? (i := 137) rfl)))) (hts _ (List.mem_append_right _ (tin_1 _ (List.mem_of_getElem? (i := 16) rfl)))) (fl_h hgv (k := 35) (by decide +kernel)) hB
  refine ⟨fun p => if p = 1000 then t0 else if p = 1001 then t1 else if p = 1002 then t2 else if p = 1003 then t3 else if p = 1004 then adK 0 else adV 0, fun N A hA hq9 => ?_⟩
  have e0 : A 1000 = t0 := hA 1000 (by decide)
  have e1 : A 1001 = t1 := hA 1001 (by decide)
  have e2 : A 1002 = t2 := hA 1002 (by decide)
  have e3 : A 1003 = t3 := hA 1003 (by decide)
  have e4 : A 1004 = adK 0 := hA 1004 (by decide)
  have e5 : A 1005 = adV 0 := hA 1005 (by decide)
  refine SF.narrow (B := fun q => s.heap.size ≤ q) hq9 ⟨⟨by rw [e0]; exact z0, by rw [e0]; exact y0⟩, ⟨by rw [e1]; exact z1, by rw [e1]; exact y1⟩, ⟨by rw [e2]; exact z2, by rw [e2]; exact y2⟩, ⟨by rw [e3]; exact z3, by rw [e3]; exact y3⟩, ⟨va_Nw.of rfl (hts _ (List.mem_append_right _ (tin_3 _ (List.mem_of_getElem? (i := 17) rfl)))), va_Nw.of rfl (hts _ (List.mem_append_right _ (tin_4 _ (List.mem_of_getElem? (i := 76) rfl))))⟩, ⟨by rw [e4]; exact vk_R.of (hts _ (List.mem_append_right _ (tin_3 _ (List.mem_of_getElem? (i := 119) rfl)))) (he 0 (by decide)), ?_⟩, hz, hq⟩
  refine ⟨fun i hi => ?_, fun i j hi hj _ => by omega⟩
  obtain rfl : i = 0 := by omega
  rw [e4, e5]
  exact hv.1 0 (by decide)
end BG
