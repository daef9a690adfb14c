-- the landed class's methods walked, by program (wip/whole/gen)
section
variable {p : Program} {l : Launch} {e : Env} {s : State} {m0 : MethodId} {args : Array Value} {below : List Frame} {meth : Method} {c : Code} {D : va_G} {cA : Nat → ClassId} {A : Nat → Nat}
def fX6_isTaken (a1 : Int32) (a2 : Int32) (m : Mm) : Option (Int32 × Mm) := (if ((a1 >>> (a2 &&& 31)) &&& 1) = 1 then some (1, m) else some (0, m))
set_option maxHeartbeats 4000000 in
set_option maxRecDepth 100000 in
theorem tX6_isTaken {l : Launch} {D : va_G} {cA : Nat → ClassId} {A : Nat → Nat} (hI : InjA cN A) {a1 : Int32} {a2 : Int32} {m m' : Mm} {r : Int32} (h : fX6_isTaken a1 a2 m = some (r, m')) : Met0 l yX6_isTaken cX6_isTaken 2 (some .boolean) { frames := 0, cells := 0, slots := 0, locals := 0 } cLay cN D cA A [.int a1, .int a2] m (some (.int r)) m' := by
  refine met0_of (by decide) (Nat.le_of_ble_eq_true rfl) hI ?_
  intro p e s m0 below meth c ls X hinit hP hS hl
  generalize ([.int a1, .int a2] : List Value).toArray = args at X ⊢
  have hl : lv_has ls 2 [(0, .int a1), (1, .int a2)] := hl
  have X : CX cLay cN D cA A p s m0 args meth c "BenchTowels$Plain" cX6_isTaken 2 (some .boolean) := X
  have hx := X.1
  have hb := X.2.1
  have hml := X.2.2.1
  have hown := X.2.2.2.1
  have hts := X.2.2.2.2.1
  have hF := X.2.2.2.2.2.2.2.2.1
  rewrite [fX6_isTaken] at h
  refine lv_iload_n hx hb dX6_isTaken_0 rfl (lv_at hl 0 rfl) ?_
  refine lv_iload_n hx hb dX6_isTaken_1 rfl (lv_at hl 1 rfl) ?_
  refine lv_ishr hx hb dX6_isTaken_2 ?_
  refine lv_iconst (v := 1) hx hb dX6_isTaken_3 (by decide) ?_
  refine lv_iand hx hb dX6_isTaken_4 ?_
  refine lv_iconst (v := 1) hx hb dX6_isTaken_5 (by decide) ?_
  refine lv_icmp_ne (tgt := 13) hx hb dX6_isTaken_6 (by decide) (fun c_1 => ?_) (fun c_1 => ?_)
  · have h := ifn c_1 h
    refine lv_iconst (v := 0) hx hb dX6_isTaken_13 (by decide) ?_
    exact r_zret X (Or.inl rfl) hP hS dX6_isTaken_14 h
  · have h := ifp c_1 h
    refine lv_iconst (v := 1) hx hb dX6_isTaken_9 (by decide) ?_
    refine lv_goto (tgt := 14) hx hb dX6_isTaken_10 (by decide) ?_
    exact r_zret X (Or.inr rfl) hP hS dX6_isTaken_14 h

def fX6_may (k : Nat) (a1 : Int32) (a2 : Int32) (m : Mm) : Option (Int32 × Mm) := bd (fX6_isTaken a1 a2 m) fun r_1 m_2 => (if r_1 = 0 then some (1, m_2) else some (0, m_2))
set_option maxHeartbeats 4000000 in
set_option maxRecDepth 100000 in
theorem tX6_may {l : Launch} {D : va_G} {cA : Nat → ClassId} {A : Nat → Nat} (hI : InjA cN A) {k : Nat} (hk : k < 6) {a1 : Int32} {a2 : Int32} {m m' : Mm} {r : Int32} (h : fX6_may k a1 a2 m = some (r, m')) : Met0 l yX6_may cX6_may 3 (some .boolean) { frames := 1, cells := 0, slots := 0, locals := 21 } cLay cN D cA A [.ref (A (kp k)), .int a1, .int a2] m (some (.int r)) m' := by
  refine met0_of (by decide) (Nat.le_of_ble_eq_true rfl) hI ?_
  intro p e s m0 below meth c ls X hinit hP hS hl
  generalize ([.ref (A (kp k)), .int a1, .int a2] : List Value).toArray = args at X ⊢
  have hl : lv_has ls 3 [(0, .ref (A (kp k))), (1, .int a1), (2, .int a2)] := hl
  have X : CX cLay cN D cA A p s m0 args meth c "BenchTowels$Plain" cX6_may 3 (some .boolean) := X
  have hx := X.1
  have hb := X.2.1
  have hml := X.2.2.1
  have hown := X.2.2.2.1
  have hts := X.2.2.2.2.1
  have hF := X.2.2.2.2.2.2.2.2.1
  rewrite [fX6_may] at h
  refine lv_iload_n hx hb dX6_may_0 rfl (lv_at hl 1 rfl) ?_
  refine lv_iload_n hx hb dX6_may_1 rfl (lv_at hl 2 rfl) ?_
  obtain ⟨r_1, m_2, hc_3, h⟩ := bd_some h
  refine c_S (rest := []) X hP hS (tX6_isTaken hI  hc_3) wt_2_197 wt_2_182 wt_1_4 wt_2_183 hy_X6_isTaken ⟨rfl, rfl⟩ ⟨Nat.le_of_ble_eq_true rfl, Nat.le_of_ble_eq_true rfl⟩ rfl hl.1 rfl (Nat.le_of_ble_eq_true rfl) dX6_may_2 rfl (fun H locs hP hS => ?_)
  refine lv_if_ne (tgt := 12) hx hb dX6_may_5 (by decide) (fun c_4 => ?_) (fun c_4 => ?_)
  · have h := ifn c_4 h
    refine lv_iconst (v := 0) hx hb dX6_may_12 (by decide) ?_
    exact r_zret X (Or.inl rfl) hP hS dX6_may_13 h
  · have h := ifp c_4 h
    refine lv_iconst (v := 1) hx hb dX6_may_8 (by decide) ?_
    refine lv_goto (tgt := 13) hx hb dX6_may_9 (by decide) ?_
    exact r_zret X (Or.inr rfl) hP hS dX6_may_13 h

def fX6_gains (k : Nat) (a1 : Int32) (a2 : Int32) (m : Mm) : Option (Int32 × Mm) := some (a1, m)
set_option maxHeartbeats 4000000 in
set_option maxRecDepth 100000 in
theorem tX6_gains {l : Launch} {D : va_G} {cA : Nat → ClassId} {A : Nat → Nat} (hI : InjA cN A) {k : Nat} (hk : k < 6) {a1 : Int32} {a2 : Int32} {m m' : Mm} {r : Int32} (h : fX6_gains k a1 a2 m = some (r, m')) : Met0 l yX6_gains cX6_gains 3 (some .int) { frames := 0, cells := 0, slots := 0, locals := 0 } cLay cN D cA A [.ref (A (kp k)), .int a1, .int a2] m (some (.int r)) m' := by
  refine met0_of (by decide) (Nat.le_of_ble_eq_true rfl) hI ?_
  intro p e s m0 below meth c ls X hinit hP hS hl
  generalize ([.ref (A (kp k)), .int a1, .int a2] : List Value).toArray = args at X ⊢
  have hl : lv_has ls 3 [(0, .ref (A (kp k))), (1, .int a1), (2, .int a2)] := hl
  have X : CX cLay cN D cA A p s m0 args meth c "BenchTowels$Plain" cX6_gains 3 (some .int) := X
  have hx := X.1
  have hb := X.2.1
  have hml := X.2.2.1
  have hown := X.2.2.2.1
  have hts := X.2.2.2.2.1
  have hF := X.2.2.2.2.2.2.2.2.1
  rewrite [fX6_gains] at h
  refine lv_iload_n hx hb dX6_gains_0 rfl (lv_at hl 1 rfl) ?_
  exact r_iret X hP hS dX6_gains_1 h

def fX6_tires (k : Nat) (m : Mm) : Option (Int32 × Mm) := some (2, m)
set_option maxHeartbeats 4000000 in
set_option maxRecDepth 100000 in
theorem tX6_tires {l : Launch} {D : va_G} {cA : Nat → ClassId} {A : Nat → Nat} (hI : InjA cN A) {k : Nat} (hk : k < 6) {m m' : Mm} {r : Int32} (h : fX6_tires k m = some (r, m')) : Met0 l yX6_tires cX6_tires 1 (some .int) { frames := 0, cells := 0, slots := 0, locals := 0 } cLay cN D cA A [.ref (A (kp k))] m (some (.int r)) m' := by
  refine met0_of (by decide) (Nat.le_of_ble_eq_true rfl) hI ?_
  intro p e s m0 below meth c ls X hinit hP hS hl
  generalize ([.ref (A (kp k))] : List Value).toArray = args at X ⊢
  have hl : lv_has ls 1 [(0, .ref (A (kp k)))] := hl
  have X : CX cLay cN D cA A p s m0 args meth c "BenchTowels$Plain" cX6_tires 1 (some .int) := X
  have hx := X.1
  have hb := X.2.1
  have hml := X.2.2.1
  have hown := X.2.2.2.1
  have hts := X.2.2.2.2.1
  have hF := X.2.2.2.2.2.2.2.2.1
  rewrite [fX6_tires] at h
  refine lv_iconst (v := 2) hx hb dX6_tires_0 (by decide) ?_
  exact r_iret X hP hS dX6_tires_1 h

def fX3_begins (a1 : Int32) (m : Mm) : Option (Int32 × Mm) := (if (m 52 9) = 0 then (if (30 : Int32) ≤ (m 52 11) then some (1, m) else gx (m 52 11) 30 (lt (up m 63 (ix (m 52 11)) a1) fun m_4 => lt (up m_4 52 11 ((m_4 52 11) + 1)) fun m_6 => some (1, m_6))) else some (0, m))
set_option maxHeartbeats 4000000 in
set_option maxRecDepth 100000 in
theorem tX3_begins {l : Launch} {D : va_G} {cA : Nat → ClassId} {A : Nat → Nat} (hI : InjA cN A) {a1 : Int32} {m m' : Mm} {r : Int32} (h : fX3_begins a1 m = some (r, m')) : Met0 l yX3_begins cX3_begins 2 (some .boolean) { frames := 0, cells := 0, slots := 0, locals := 0 } cLay cN D cA A [.ref (A 52), .int a1] m (some (.int r)) m' := by
  refine met0_of (by decide) (Nat.le_of_ble_eq_true rfl) hI ?_
  intro p e s m0 below meth c ls X hinit hP hS hl
  generalize ([.ref (A 52), .int a1] : List Value).toArray = args at X ⊢
  have hl : lv_has ls 2 [(0, .ref (A 52)), (1, .int a1)] := hl
  have X : CX cLay cN D cA A p s m0 args meth c "BenchTowels$Host" cX3_begins 2 (some .boolean) := X
  have hx := X.1
  have hb := X.2.1
  have hml := X.2.2.1
  have hown := X.2.2.2.1
  have hts := X.2.2.2.2.1
  have hF := X.2.2.2.2.2.2.2.2.1
  rewrite [fX3_begins] at h
  refine lv_aload_n hx hb dX3_begins_0 rfl (lv_at hl 0 rfl) ?_
  refine r_get kc_3 9 X hP (by decide) (L_host _) (by decide) rfl wt_2_63 dX3_begins_1 ?_
  refine lv_if_eq (tgt := 9) hx hb dX3_begins_4 (by decide) (fun c_1 => ?_) (fun c_1 => ?_)
  · have h := ifp c_1 h
    refine lv_aload_n hx hb dX3_begins_9 rfl (lv_at hl 0 rfl) ?_
    refine r_get kc_3 11 X hP (by decide) (L_host _) (by decide) rfl wt_2_68 dX3_begins_10 ?_
    refine lv_bipush (v := 30) hx hb dX3_begins_13 (by decide) ?_
    refine lv_icmp_ge (tgt := 38) hx hb dX3_begins_15 (by decide) (fun c_2 => ?_) (fun c_2 => ?_)
    · have h := ifp c_2 h
      refine lv_iconst (v := 1) hx hb dX3_begins_38 (by decide) ?_
      exact r_zret X (Or.inr rfl) hP hS dX3_begins_39 h
    · have h := ifn c_2 h
      refine lv_aload_n hx hb dX3_begins_18 rfl (lv_at hl 0 rfl) ?_
      refine r_get kc_3 10 X hP (by decide) (L_host _) (by decide) rfl wt_2_66 dX3_begins_19 ?_
      refine lv_aload_n hx hb dX3_begins_22 rfl (lv_at hl 0 rfl) ?_
      refine r_get kc_3 11 X hP (by decide) (L_host _) (by decide) rfl wt_2_68 dX3_begins_23 ?_
      refine lv_iload_n hx hb dX3_begins_26 rfl (lv_at hl 1 rfl) ?_
      obtain ⟨hin_3, h⟩ := gx_some h
      obtain ⟨m_4, em_5, h⟩ := lt_some h
      refine r_iast X hP hS (by decide) La_63 hin_3 rfl dX3_begins_27 em_5 (fun H locs hP hS => ?_)
      refine lv_aload_n hx hb dX3_begins_28 rfl (lv_at hl 0 rfl) ?_
      refine lv_dup hx hb dX3_begins_29 rfl ?_
      refine r_get kc_3 11 X hP (by decide) (L_host _) (by decide) rfl wt_2_68 dX3_begins_30 ?_
      refine lv_iconst (v := 1) hx hb dX3_begins_33 (by decide) ?_
      refine lv_iadd hx hb dX3_begins_34 ?_
      obtain ⟨m_6, em_7, h⟩ := lt_some h
      refine r_put kc_3 11 X hP hS (by decide) (L_host _) (L_host _) (by decide) wt_2_68 rfl (by decide +kernel) (Nat.le_of_ble_eq_true rfl) dX3_begins_35 em_7 (fun H locs hP hS => ?_)
      refine lv_iconst (v := 1) hx hb dX3_begins_38 (by decide) ?_
      exact r_zret X (Or.inr rfl) hP hS dX3_begins_39 h
  · have h := ifn c_1 h
    refine lv_iconst (v := 0) hx hb dX3_begins_7 (by decide) ?_
    exact r_zret X (Or.inl rfl) hP hS dX3_begins_8 h

def fX6_lifts (k : Nat) (a2 : Int32) (m : Mm) : Option (Int32 × Mm) := bd (fX3_begins (10 : Int32) m) fun r_1 m_2 => (if r_1 = 0 then some (0, m_2) else some ((a2 + ((m_2 52 8) * 2)), m_2))
set_option maxHeartbeats 4000000 in
set_option maxRecDepth 100000 in
theorem tX6_lifts {l : Launch} {D : va_G} {cA : Nat → ClassId} {A : Nat → Nat} (hI : InjA cN A) {k : Nat} (hk : k < 6) {a2 : Int32} {m m' : Mm} {r : Int32} (h : fX6_lifts k a2 m = some (r, m')) : Met0 l yX6_lifts cX6_lifts 3 (some .int) { frames := 1, cells := 0, slots := 0, locals := 21 } cLay cN D cA A [.ref (A (kp k)), .ref (A 52), .int a2] m (some (.int r)) m' := by
  refine met0_of (by decide) (Nat.le_of_ble_eq_true rfl) hI ?_
  intro p e s m0 below meth c ls X hinit hP hS hl
  generalize ([.ref (A (kp k)), .ref (A 52), .int a2] : List Value).toArray = args at X ⊢
  have hl : lv_has ls 3 [(0, .ref (A (kp k))), (1, .ref (A 52)), (2, .int a2)] := hl
  have X : CX cLay cN D cA A p s m0 args meth c "BenchTowels$Plain" cX6_lifts 3 (some .int) := X
  have hx := X.1
  have hb := X.2.1
  have hml := X.2.2.1
  have hown := X.2.2.2.1
  have hts := X.2.2.2.2.1
  have hF := X.2.2.2.2.2.2.2.2.1
  rewrite [fX6_lifts] at h
  refine lv_aload_n hx hb dX6_lifts_0 rfl (lv_at hl 1 rfl) ?_
  refine lv_bipush (v := 10) hx hb dX6_lifts_1 (by decide) ?_
  obtain ⟨r_1, m_2, hc_3, h⟩ := bd_some h
  refine c_V (rest := []) X hP hS (tX3_begins hI  hc_3) (by decide) (L_host _) rfl wt_5_81 wt_5_66 wt_5_67 wt_1_12 wt_5_68 ⟨rfl, hy_X3_begins⟩ ⟨rfl, rfl⟩ ⟨Nat.le_of_ble_eq_true rfl, Nat.le_of_ble_eq_true rfl⟩ rfl hl.1 rfl (Nat.le_of_ble_eq_true rfl) dX6_lifts_3 rfl (fun H locs hP hS => ?_)
  refine lv_if_eq (tgt := 20) hx hb dX6_lifts_6 (by decide) (fun c_4 => ?_) (fun c_4 => ?_)
  · have h := ifp c_4 h
    refine lv_iconst (v := 0) hx hb dX6_lifts_20 (by decide) ?_
    exact r_iret X hP hS dX6_lifts_21 h
  · have h := ifn c_4 h
    refine lv_iload_n hx hb dX6_lifts_9 rfl (lv_at hl 2 rfl) ?_
    refine lv_aload_n hx hb dX6_lifts_10 rfl (lv_at hl 1 rfl) ?_
    refine r_get kc_3 8 X hP (by decide) (L_host _) (by decide) rfl wt_2_61 dX6_lifts_11 ?_
    refine lv_iconst (v := 2) hx hb dX6_lifts_14 (by decide) ?_
    refine lv_imul hx hb dX6_lifts_15 ?_
    refine lv_iadd hx hb dX6_lifts_16 ?_
    refine lv_goto (tgt := 21) hx hb dX6_lifts_17 (by decide) ?_
    exact r_iret X hP hS dX6_lifts_21 h

def fX0_lifts (a2 : Int32) (m : Mm) : Option (Int32 × Mm) := bd (fX3_begins (20 : Int32) m) fun r_1 m_2 => (if r_1 = 0 then some (0, m_2) else bd (fX6_lifts 1 a2 m_2) fun r_5 m_6 => some (((0 : Int32) - r_5), m_6))
set_option maxHeartbeats 4000000 in
set_option maxRecDepth 100000 in
theorem tX0_lifts {l : Launch} {D : va_G} {cA : Nat → ClassId} {A : Nat → Nat} (hI : InjA cN A) {a2 : Int32} {m m' : Mm} {r : Int32} (h : fX0_lifts a2 m = some (r, m')) : Met0 l yX0_lifts cX0_lifts 3 (some .int) { frames := 2, cells := 0, slots := 0, locals := 43 } cLay cN D cA A [.ref (A (kp 1)), .ref (A 52), .int a2] m (some (.int r)) m' := by
  refine met0_of (by decide) (Nat.le_of_ble_eq_true rfl) hI ?_
  intro p e s m0 below meth c ls X hinit hP hS hl
  generalize ([.ref (A (kp 1)), .ref (A 52), .int a2] : List Value).toArray = args at X ⊢
  have hl : lv_has ls 3 [(0, .ref (A (kp 1))), (1, .ref (A 52)), (2, .int a2)] := hl
  have X : CX cLay cN D cA A p s m0 args meth c "BenchTowels$Alone" cX0_lifts 3 (some .int) := X
  have hx := X.1
  have hb := X.2.1
  have hml := X.2.2.1
  have hown := X.2.2.2.1
  have hts := X.2.2.2.2.1
  have hF := X.2.2.2.2.2.2.2.2.1
  rewrite [fX0_lifts] at h
  refine lv_aload_n hx hb dX0_lifts_0 rfl (lv_at hl 1 rfl) ?_
  refine lv_bipush (v := 20) hx hb dX0_lifts_1 (by decide) ?_
  obtain ⟨r_1, m_2, hc_3, h⟩ := bd_some h
  refine c_V (rest := []) X hP hS (tX3_begins hI  hc_3) (by decide) (L_host _) rfl wt_5_65 wt_5_66 wt_5_67 wt_1_12 wt_5_68 ⟨rfl, hy_X3_begins⟩ ⟨rfl, rfl⟩ ⟨Nat.le_of_ble_eq_true rfl, Nat.le_of_ble_eq_true rfl⟩ rfl hl.1 rfl (Nat.le_of_ble_eq_true rfl) dX0_lifts_3 rfl (fun H locs hP hS => ?_)
  refine lv_if_eq (tgt := 20) hx hb dX0_lifts_6 (by decide) (fun c_4 => ?_) (fun c_4 => ?_)
  · have h := ifp c_4 h
    refine lv_iconst (v := 0) hx hb dX0_lifts_20 (by decide) ?_
    exact r_iret X hP hS dX0_lifts_21 h
  · have h := ifn c_4 h
    refine lv_iconst (v := 0) hx hb dX0_lifts_9 (by decide) ?_
    refine lv_aload_n hx hb dX0_lifts_10 rfl (lv_at hl 0 rfl) ?_
    refine lv_aload_n hx hb dX0_lifts_11 rfl (lv_at hl 1 rfl) ?_
    refine lv_iload_n hx hb dX0_lifts_12 rfl (lv_at hl 2 rfl) ?_
    obtain ⟨r_5, m_6, hc_7, h⟩ := bd_some h
    refine c_SU (rest := [.int 0]) X hP hS (tX6_lifts hI (by decide) hc_7) (lt_k (by decide)) (L_kind (by decide) _) (kc_kind (by decide)) wt_5_69 wt_5_61 wt_1_134 wt_5_59 wt_1_4 wt_5_80 hyS_X6_lifts ⟨rfl, rfl⟩ ⟨Nat.le_of_ble_eq_true rfl, Nat.le_of_ble_eq_true rfl⟩ rfl hl.1 rfl (Nat.le_of_ble_eq_true rfl) dX0_lifts_13 rfl (fun H locs hP hS => ?_)
    refine lv_isub hx hb dX0_lifts_16 ?_
    refine lv_goto (tgt := 21) hx hb dX0_lifts_17 (by decide) ?_
    exact r_iret X hP hS dX0_lifts_21 h

def fX5_lifts (a2 : Int32) (m : Mm) : Option (Int32 × Mm) := bd (fX3_begins (50 : Int32) m) fun r_1 m_2 => (if r_1 = 0 then some (0, m_2) else bd (fX6_lifts 3 a2 m_2) fun r_5 m_6 => some ((r_5 + (m_6 52 7)), m_6))
set_option maxHeartbeats 4000000 in
set_option maxRecDepth 100000 in
theorem tX5_lifts {l : Launch} {D : va_G} {cA : Nat → ClassId} {A : Nat → Nat} (hI : InjA cN A) {a2 : Int32} {m m' : Mm} {r : Int32} (h : fX5_lifts a2 m = some (r, m')) : Met0 l yX5_lifts cX5_lifts 3 (some .int) { frames := 2, cells := 0, slots := 0, locals := 43 } cLay cN D cA A [.ref (A (kp 3)), .ref (A 52), .int a2] m (some (.int r)) m' := by
  refine met0_of (by decide) (Nat.le_of_ble_eq_true rfl) hI ?_
  intro p e s m0 below meth c ls X hinit hP hS hl
  generalize ([.ref (A (kp 3)), .ref (A 52), .int a2] : List Value).toArray = args at X ⊢
  have hl : lv_has ls 3 [(0, .ref (A (kp 3))), (1, .ref (A 52)), (2, .int a2)] := hl
  have X : CX cLay cN D cA A p s m0 args meth c "BenchTowels$Paired" cX5_lifts 3 (some .int) := X
  have hx := X.1
  have hb := X.2.1
  have hml := X.2.2.1
  have hown := X.2.2.2.1
  have hts := X.2.2.2.2.1
  have hF := X.2.2.2.2.2.2.2.2.1
  rewrite [fX5_lifts] at h
  refine lv_aload_n hx hb dX5_lifts_0 rfl (lv_at hl 1 rfl) ?_
  refine lv_bipush (v := 50) hx hb dX5_lifts_1 (by decide) ?_
  obtain ⟨r_1, m_2, hc_3, h⟩ := bd_some h
  refine c_V (rest := []) X hP hS (tX3_begins hI  hc_3) (by decide) (L_host _) rfl wt_5_74 wt_5_66 wt_5_67 wt_1_12 wt_5_68 ⟨rfl, hy_X3_begins⟩ ⟨rfl, rfl⟩ ⟨Nat.le_of_ble_eq_true rfl, Nat.le_of_ble_eq_true rfl⟩ rfl hl.1 rfl (Nat.le_of_ble_eq_true rfl) dX5_lifts_3 rfl (fun H locs hP hS => ?_)
  refine lv_if_eq (tgt := 23) hx hb dX5_lifts_6 (by decide) (fun c_4 => ?_) (fun c_4 => ?_)
  · have h := ifp c_4 h
    refine lv_iconst (v := 0) hx hb dX5_lifts_23 (by decide) ?_
    exact r_iret X hP hS dX5_lifts_24 h
  · have h := ifn c_4 h
    refine lv_aload_n hx hb dX5_lifts_9 rfl (lv_at hl 0 rfl) ?_
    refine lv_aload_n hx hb dX5_lifts_10 rfl (lv_at hl 1 rfl) ?_
    refine lv_iload_n hx hb dX5_lifts_11 rfl (lv_at hl 2 rfl) ?_
    obtain ⟨r_5, m_6, hc_7, h⟩ := bd_some h
    refine c_SUU (rest := []) "BenchTowels$Plain" X hP hS (tX6_lifts hI (by decide) hc_7) (lt_k (by decide)) (L_kind (by decide) _) (kc_kind (by decide)) rfl wt_5_75 wt_5_76 wt_1_148 wt_1_141 wt_5_59 wt_1_4 wt_5_80 hyS_X6_lifts ⟨rfl, rfl⟩ ⟨Nat.le_of_ble_eq_true rfl, Nat.le_of_ble_eq_true rfl⟩ rfl hl.1 rfl (Nat.le_of_ble_eq_true rfl) dX5_lifts_12 rfl (fun H locs hP hS => ?_)
    refine lv_aload_n hx hb dX5_lifts_15 rfl (lv_at hl 1 rfl) ?_
    refine r_get kc_3 7 X hP (by decide) (L_host _) (by decide) rfl wt_2_57 dX5_lifts_16 ?_
    refine lv_iadd hx hb dX5_lifts_19 ?_
    refine lv_goto (tgt := 24) hx hb dX5_lifts_20 (by decide) ?_
    exact r_iret X hP hS dX5_lifts_24 h

def v_lifts (k : Nat) (a2 : Int32) (m : Mm) : Option (Int32 × Mm) := if k = 0 then fX6_lifts k a2 m else if k = 1 then fX0_lifts a2 m else if k = 2 then fX6_lifts k a2 m else if k = 3 then fX5_lifts a2 m else if k = 4 then fX6_lifts k a2 m else if k = 5 then fX6_lifts k a2 m else none

set_option maxHeartbeats 4000000 in
theorem vc_6_23 {R : Room} {H : Heap} {locs : List Loc} {Q : State → Prop} {m m1 : Mm} {cc : ByteArray} {nL pc pc' : Nat} {ret : Option FieldType} {ls : Array Slot} {rest : List Value} {k : Nat} {r : Int32} {a2 : Int32} (X : CX cLay cN D cA A p s m0 args meth c "BenchTowels$Plain" cc nL ret) (hP : va_P D vwCl (wsOf cLay cN cA A m) H) (hS : va_S (AW cN A) s.heap H locs) (hI : InjA cN A) (hk : k < 6) (hv : v_lifts k a2 m = some (r, m1)) (hR : 2 + 1 ≤ R.frames ∧ 19 + 46 ≤ R.locals) (hs : ls.size = nL) (hW : (rest.map fun v => v.category).sum ≤ 8) (hdg : decode cc pc = .ok (.invokevirtual 23, 3)) (hpc : pc + 3 = pc')
    (kk : ∀ (H1 : Heap) (locs1 : List Loc), va_P D vwCl (wsOf cLay cN cA A m1) H1 → va_S (AW cN A) s.heap H1 locs1 → W p l e R s m0 args below meth c H1 locs1 0 0 Q (F0 m0 pc' ls (.int r :: rest))) : W p l e R s m0 args below meth c H locs 0 0 Q (F0 m0 pc ls (.int a2 :: .ref (A 52) :: .ref (A (kp k)) :: rest)) := by
  unfold v_lifts at hv
  rcases (show k = 0 ∨ k = 1 ∨ k = 2 ∨ k = 3 ∨ k = 4 ∨ k = 5 by omega) with rfl | rfl | rfl | rfl | rfl | rfl
  · have hv := ifp rfl hv
    exact c_U (rest := rest) "BenchTowels$Plain" X hP hS (tX6_lifts hI (by decide) hv) (lt_k (by decide)) (L_kind (by decide) _) rfl wt_5_102 wt_5_61 wt_5_59 wt_5_60 wt_5_59 wt_1_4 wt_5_80 wt_5_80 hyU_X6_lifts ⟨rfl, rfl⟩ ⟨Nat.le_trans (Nat.le_of_ble_eq_true rfl) hR.1, Nat.le_trans (Nat.le_of_ble_eq_true rfl) hR.2⟩ rfl hs rfl hW hdg hpc kk
  · have hv := ifn (by decide) hv
    have hv := ifp rfl hv
    exact c_U (rest := rest) "BenchTowels$Plain" X hP hS (tX0_lifts hI  hv) (lt_k (by decide)) (L_kind (by decide) _) rfl wt_5_102 wt_5_61 wt_5_59 wt_5_62 wt_5_63 wt_1_5 wt_5_64 wt_5_80 hyU_X6_lifts ⟨rfl, rfl⟩ ⟨Nat.le_trans (Nat.le_of_ble_eq_true rfl) hR.1, Nat.le_trans (Nat.le_of_ble_eq_true rfl) hR.2⟩ rfl hs rfl hW hdg hpc kk
  · have hv := ifn (by decide) hv
    have hv := ifn (by decide) hv
    have hv := ifp rfl hv
    exact c_U (rest := rest) "BenchTowels$Plain" X hP hS (tX6_lifts hI (by decide) hv) (lt_k (by decide)) (L_kind (by decide) _) rfl wt_5_102 wt_5_61 wt_5_59 wt_5_78 wt_5_59 wt_1_4 wt_5_80 wt_5_80 hyU_X6_lifts ⟨rfl, rfl⟩ ⟨Nat.le_trans (Nat.le_of_ble_eq_true rfl) hR.1, Nat.le_trans (Nat.le_of_ble_eq_true rfl) hR.2⟩ rfl hs rfl hW hdg hpc kk
  · have hv := ifn (by decide) hv
    have hv := ifn (by decide) hv
    have hv := ifn (by decide) hv
    have hv := ifp rfl hv
    exact c_U (rest := rest) "BenchTowels$Plain" X hP hS (tX5_lifts hI  hv) (lt_k (by decide)) (L_kind (by decide) _) rfl wt_5_102 wt_5_61 wt_5_59 wt_5_71 wt_5_72 wt_1_7 wt_5_73 wt_5_80 hyU_X6_lifts ⟨rfl, rfl⟩ ⟨Nat.le_trans (Nat.le_of_ble_eq_true rfl) hR.1, Nat.le_trans (Nat.le_of_ble_eq_true rfl) hR.2⟩ rfl hs rfl hW hdg hpc kk
  · have hv := ifn (by decide) hv
    have hv := ifn (by decide) hv
    have hv := ifn (by decide) hv
    have hv := ifn (by decide) hv
    have hv := ifp rfl hv
    exact c_U (rest := rest) "BenchTowels$Plain" X hP hS (tX6_lifts hI (by decide) hv) (lt_k (by decide)) (L_kind (by decide) _) rfl wt_5_102 wt_5_61 wt_5_59 wt_5_70 wt_5_59 wt_1_4 wt_5_80 wt_5_80 hyU_X6_lifts ⟨rfl, rfl⟩ ⟨Nat.le_trans (Nat.le_of_ble_eq_true rfl) hR.1, Nat.le_trans (Nat.le_of_ble_eq_true rfl) hR.2⟩ rfl hs rfl hW hdg hpc kk
  · have hv := ifn (by decide) hv
    have hv := ifn (by decide) hv
    have hv := ifn (by decide) hv
    have hv := ifn (by decide) hv
    have hv := ifn (by decide) hv
    have hv := ifp rfl hv
    exact c_U (rest := rest) "BenchTowels$Plain" X hP hS (tX6_lifts hI (by decide) hv) (lt_k (by decide)) (L_kind (by decide) _) rfl wt_5_102 wt_5_61 wt_5_59 wt_5_79 wt_5_59 wt_1_4 wt_5_80 wt_5_80 hyU_X6_lifts ⟨rfl, rfl⟩ ⟨Nat.le_trans (Nat.le_of_ble_eq_true rfl) hR.1, Nat.le_trans (Nat.le_of_ble_eq_true rfl) hR.2⟩ rfl hs rfl hW hdg hpc kk

def fX6_groans (k : Nat) (a2 : Int32) (m : Mm) : Option (Int32 × Mm) := bd (fX3_begins (11 : Int32) m) fun r_1 m_2 => (if r_1 = 0 then some (0, m_2) else bd (v_lifts k a2 m_2) fun r_5 m_6 => some ((r_5 ^^^ (m_6 52 7)), m_6))
set_option maxHeartbeats 4000000 in
set_option maxRecDepth 100000 in
theorem tX6_groans {l : Launch} {D : va_G} {cA : Nat → ClassId} {A : Nat → Nat} (hI : InjA cN A) {k : Nat} (hk : k < 6) {a2 : Int32} {m m' : Mm} {r : Int32} (h : fX6_groans k a2 m = some (r, m')) : Met0 l yX6_groans cX6_groans 3 (some .int) { frames := 3, cells := 0, slots := 0, locals := 65 } cLay cN D cA A [.ref (A (kp k)), .ref (A 52), .int a2] m (some (.int r)) m' := by
  refine met0_of (by decide) (Nat.le_of_ble_eq_true rfl) hI ?_
  intro p e s m0 below meth c ls X hinit hP hS hl
  generalize ([.ref (A (kp k)), .ref (A 52), .int a2] : List Value).toArray = args at X ⊢
  have hl : lv_has ls 3 [(0, .ref (A (kp k))), (1, .ref (A 52)), (2, .int a2)] := hl
  have X : CX cLay cN D cA A p s m0 args meth c "BenchTowels$Plain" cX6_groans 3 (some .int) := X
  have hx := X.1
  have hb := X.2.1
  have hml := X.2.2.1
  have hown := X.2.2.2.1
  have hts := X.2.2.2.2.1
  have hF := X.2.2.2.2.2.2.2.2.1
  rewrite [fX6_groans] at h
  refine lv_aload_n hx hb dX6_groans_0 rfl (lv_at hl 1 rfl) ?_
  refine lv_bipush (v := 11) hx hb dX6_groans_1 (by decide) ?_
  obtain ⟨r_1, m_2, hc_3, h⟩ := bd_some h
  refine c_V (rest := []) X hP hS (tX3_begins hI  hc_3) (by decide) (L_host _) rfl wt_5_81 wt_5_66 wt_5_67 wt_1_12 wt_5_68 ⟨rfl, hy_X3_begins⟩ ⟨rfl, rfl⟩ ⟨Nat.le_of_ble_eq_true rfl, Nat.le_of_ble_eq_true rfl⟩ rfl hl.1 rfl (Nat.le_of_ble_eq_true rfl) dX6_groans_3 rfl (fun H locs hP hS => ?_)
  refine lv_if_eq (tgt := 23) hx hb dX6_groans_6 (by decide) (fun c_4 => ?_) (fun c_4 => ?_)
  · have h := ifp c_4 h
    refine lv_iconst (v := 0) hx hb dX6_groans_23 (by decide) ?_
    exact r_iret X hP hS dX6_groans_24 h
  · have h := ifn c_4 h
    refine lv_aload_n hx hb dX6_groans_9 rfl (lv_at hl 0 rfl) ?_
    refine lv_aload_n hx hb dX6_groans_10 rfl (lv_at hl 1 rfl) ?_
    refine lv_iload_n hx hb dX6_groans_11 rfl (lv_at hl 2 rfl) ?_
    obtain ⟨r_5, m_6, hc_7, h⟩ := bd_some h
    refine vc_6_23 (rest := []) X hP hS hI hk hc_7 ⟨Nat.le_of_ble_eq_true rfl, Nat.le_of_ble_eq_true rfl⟩ hl.1 (Nat.le_of_ble_eq_true rfl) dX6_groans_12 rfl (fun H locs hP hS => ?_)
    refine lv_aload_n hx hb dX6_groans_15 rfl (lv_at hl 1 rfl) ?_
    refine r_get kc_3 7 X hP (by decide) (L_host _) (by decide) rfl wt_2_58 dX6_groans_16 ?_
    refine lv_ixor hx hb dX6_groans_19 ?_
    refine lv_goto (tgt := 24) hx hb dX6_groans_20 (by decide) ?_
    exact r_iret X hP hS dX6_groans_24 h

def fX6_parts (k : Nat) (a2 : Int32) (m : Mm) : Option (Int32 × Mm) := bd (fX3_begins (12 : Int32) m) fun r_1 m_2 => (if r_1 = 0 then some (0, m_2) else lt ((m_2 52 8) - (m_2 52 7)) fun x3_5 => (if x3_5 = 0 then lt (up m_2 52 9 1) fun m_8 => some (0, m_8) else gz x3_5 (some ((a2 / x3_5), m_2))))
set_option maxHeartbeats 4000000 in
set_option maxRecDepth 100000 in
theorem tX6_parts {l : Launch} {D : va_G} {cA : Nat → ClassId} {A : Nat → Nat} (hI : InjA cN A) {k : Nat} (hk : k < 6) {a2 : Int32} {m m' : Mm} {r : Int32} (h : fX6_parts k a2 m = some (r, m')) : Met0 l yX6_parts cX6_parts 4 (some .int) { frames := 1, cells := 0, slots := 0, locals := 21 } cLay cN D cA A [.ref (A (kp k)), .ref (A 52), .int a2] m (some (.int r)) m' := by
  refine met0_of (by decide) (Nat.le_of_ble_eq_true rfl) hI ?_
  intro p e s m0 below meth c ls X hinit hP hS hl
  generalize ([.ref (A (kp k)), .ref (A 52), .int a2] : List Value).toArray = args at X ⊢
  have hl : lv_has ls 4 [(0, .ref (A (kp k))), (1, .ref (A 52)), (2, .int a2)] := hl
  have X : CX cLay cN D cA A p s m0 args meth c "BenchTowels$Plain" cX6_parts 4 (some .int) := X
  have hx := X.1
  have hb := X.2.1
  have hml := X.2.2.1
  have hown := X.2.2.2.1
  have hts := X.2.2.2.2.1
  have hF := X.2.2.2.2.2.2.2.2.1
  rewrite [fX6_parts] at h
  refine lv_aload_n hx hb dX6_parts_0 rfl (lv_at hl 1 rfl) ?_
  refine lv_bipush (v := 12) hx hb dX6_parts_1 (by decide) ?_
  obtain ⟨r_1, m_2, hc_3, h⟩ := bd_some h
  refine c_V (rest := []) X hP hS (tX3_begins hI  hc_3) (by decide) (L_host _) rfl wt_5_81 wt_5_66 wt_5_67 wt_1_12 wt_5_68 ⟨rfl, hy_X3_begins⟩ ⟨rfl, rfl⟩ ⟨Nat.le_of_ble_eq_true rfl, Nat.le_of_ble_eq_true rfl⟩ rfl hl.1 rfl (Nat.le_of_ble_eq_true rfl) dX6_parts_3 rfl (fun H locs hP hS => ?_)
  refine lv_if_ne (tgt := 11) hx hb dX6_parts_6 (by decide) (fun c_4 => ?_) (fun c_4 => ?_)
  · have h := ifn c_4 h
    refine lv_aload_n hx hb dX6_parts_11 rfl (lv_at hl 1 rfl) ?_
    refine r_get kc_3 8 X hP (by decide) (L_host _) (by decide) rfl wt_2_61 dX6_parts_12 ?_
    refine lv_aload_n hx hb dX6_parts_15 rfl (lv_at hl 1 rfl) ?_
    refine r_get kc_3 7 X hP (by decide) (L_host _) (by decide) rfl wt_2_58 dX6_parts_16 ?_
    refine lv_isub hx hb dX6_parts_19 ?_
    obtain ⟨x3_5, ex_6, h⟩ := lt_some h
    refine lv_ren ex_6 ?_
    refine lv_istore_n (lv' := [(3, .int x3_5), (0, .ref (A (kp k))), (1, .ref (A 52)), (2, .int a2)]) hx hb dX6_parts_20 rfl hl (by decide) rfl (fun ls hl => ?_)
    refine lv_iload_n hx hb dX6_parts_21 rfl (lv_at hl 0 rfl) ?_
    refine lv_if_eq (tgt := 29) hx hb dX6_parts_22 (by decide) (fun c_7 => ?_) (fun c_7 => ?_)
    · have h := ifp c_7 h
      refine lv_aload_n hx hb dX6_parts_29 rfl (lv_at hl 2 rfl) ?_
      refine lv_iconst (v := 1) hx hb dX6_parts_30 (by decide) ?_
      obtain ⟨m_8, em_9, h⟩ := lt_some h
      refine r_putz kc_3 9 X (Or.inr rfl) hP hS (by decide) (L_host _) (L_host _) (by decide) wt_2_64 rfl (by decide +kernel) (Nat.le_of_ble_eq_true rfl) dX6_parts_31 em_9 (fun H locs hP hS => ?_)
      refine lv_iconst (v := 0) hx hb dX6_parts_34 (by decide) ?_
      exact r_iret X hP hS dX6_parts_35 h
    · have h := ifn c_7 h
      refine lv_iload_n hx hb dX6_parts_25 rfl (lv_at hl 3 rfl) ?_
      refine lv_iload_n hx hb dX6_parts_26 rfl (lv_at hl 0 rfl) ?_
      obtain ⟨hz_10, h⟩ := gz_some h
      refine lv_idiv hx hb dX6_parts_27 hz_10 ?_
      exact r_iret X hP hS dX6_parts_28 h
  · have h := ifp c_4 h
    refine lv_iconst (v := 0) hx hb dX6_parts_9 (by decide) ?_
    exact r_iret X hP hS dX6_parts_10 h

def fX9_groans (k : Nat) (a2 : Int32) (m : Mm) : Option (Int32 × Mm) := bd (fX3_begins (30 : Int32) m) fun r_1 m_2 => (if r_1 = 0 then some (0, m_2) else bd (fX6_groans k a2 m_2) fun r_5 m_6 => some ((r_5 * 3), m_6))
set_option maxHeartbeats 4000000 in
set_option maxRecDepth 100000 in
theorem tX9_groans {l : Launch} {D : va_G} {cA : Nat → ClassId} {A : Nat → Nat} (hI : InjA cN A) {k : Nat} (hk : k < 6) {a2 : Int32} {m m' : Mm} {r : Int32} (h : fX9_groans k a2 m = some (r, m')) : Met0 l yX9_groans cX9_groans 3 (some .int) { frames := 4, cells := 0, slots := 0, locals := 87 } cLay cN D cA A [.ref (A (kp k)), .ref (A 52), .int a2] m (some (.int r)) m' := by
  refine met0_of (by decide) (Nat.le_of_ble_eq_true rfl) hI ?_
  intro p e s m0 below meth c ls X hinit hP hS hl
  generalize ([.ref (A (kp k)), .ref (A 52), .int a2] : List Value).toArray = args at X ⊢
  have hl : lv_has ls 3 [(0, .ref (A (kp k))), (1, .ref (A 52)), (2, .int a2)] := hl
  have X : CX cLay cN D cA A p s m0 args meth c "BenchTowels$Shared" cX9_groans 3 (some .int) := X
  have hx := X.1
  have hb := X.2.1
  have hml := X.2.2.1
  have hown := X.2.2.2.1
  have hts := X.2.2.2.2.1
  have hF := X.2.2.2.2.2.2.2.2.1
  rewrite [fX9_groans] at h
  refine lv_aload_n hx hb dX9_groans_0 rfl (lv_at hl 1 rfl) ?_
  refine lv_bipush (v := 30) hx hb dX9_groans_1 (by decide) ?_
  obtain ⟨r_1, m_2, hc_3, h⟩ := bd_some h
  refine c_V (rest := []) X hP hS (tX3_begins hI  hc_3) (by decide) (L_host _) rfl wt_5_91 wt_5_66 wt_5_67 wt_1_12 wt_5_68 ⟨rfl, hy_X3_begins⟩ ⟨rfl, rfl⟩ ⟨Nat.le_of_ble_eq_true rfl, Nat.le_of_ble_eq_true rfl⟩ rfl hl.1 rfl (Nat.le_of_ble_eq_true rfl) dX9_groans_3 rfl (fun H locs hP hS => ?_)
  refine lv_if_eq (tgt := 20) hx hb dX9_groans_6 (by decide) (fun c_4 => ?_) (fun c_4 => ?_)
  · have h := ifp c_4 h
    refine lv_iconst (v := 0) hx hb dX9_groans_20 (by decide) ?_
    exact r_iret X hP hS dX9_groans_21 h
  · have h := ifn c_4 h
    refine lv_aload_n hx hb dX9_groans_9 rfl (lv_at hl 0 rfl) ?_
    refine lv_aload_n hx hb dX9_groans_10 rfl (lv_at hl 1 rfl) ?_
    refine lv_iload_n hx hb dX9_groans_11 rfl (lv_at hl 2 rfl) ?_
    obtain ⟨r_5, m_6, hc_7, h⟩ := bd_some h
    refine c_SU (rest := []) X hP hS (tX6_groans hI hk hc_7) (lt_k hk) (L_kind hk _) (kc_kind hk) wt_5_92 wt_5_85 wt_1_141 wt_5_83 wt_1_4 wt_5_101 hyS_X6_groans ⟨rfl, rfl⟩ ⟨Nat.le_of_ble_eq_true rfl, Nat.le_of_ble_eq_true rfl⟩ rfl hl.1 rfl (Nat.le_of_ble_eq_true rfl) dX9_groans_12 rfl (fun H locs hP hS => ?_)
    refine lv_iconst (v := 3) hx hb dX9_groans_15 (by decide) ?_
    refine lv_imul hx hb dX9_groans_16 ?_
    refine lv_goto (tgt := 21) hx hb dX9_groans_17 (by decide) ?_
    exact r_iret X hP hS dX9_groans_21 h

def fX10_groans (a2 : Int32) (m : Mm) : Option (Int32 × Mm) := bd (fX3_begins (60 : Int32) m) fun r_1 m_2 => (if r_1 = 0 then some (0, m_2) else bd (fX6_groans 5 (a2 + 4) m_2) fun r_5 m_6 => some (r_5, m_6))
set_option maxHeartbeats 4000000 in
set_option maxRecDepth 100000 in
theorem tX10_groans {l : Launch} {D : va_G} {cA : Nat → ClassId} {A : Nat → Nat} (hI : InjA cN A) {a2 : Int32} {m m' : Mm} {r : Int32} (h : fX10_groans a2 m = some (r, m')) : Met0 l yX10_groans cX10_groans 3 (some .int) { frames := 4, cells := 0, slots := 0, locals := 87 } cLay cN D cA A [.ref (A (kp 5)), .ref (A 52), .int a2] m (some (.int r)) m' := by
  refine met0_of (by decide) (Nat.le_of_ble_eq_true rfl) hI ?_
  intro p e s m0 below meth c ls X hinit hP hS hl
  generalize ([.ref (A (kp 5)), .ref (A 52), .int a2] : List Value).toArray = args at X ⊢
  have hl : lv_has ls 3 [(0, .ref (A (kp 5))), (1, .ref (A 52)), (2, .int a2)] := hl
  have X : CX cLay cN D cA A p s m0 args meth c "BenchTowels$Unasked" cX10_groans 3 (some .int) := X
  have hx := X.1
  have hb := X.2.1
  have hml := X.2.2.1
  have hown := X.2.2.2.1
  have hts := X.2.2.2.2.1
  have hF := X.2.2.2.2.2.2.2.2.1
  rewrite [fX10_groans] at h
  refine lv_aload_n hx hb dX10_groans_0 rfl (lv_at hl 1 rfl) ?_
  refine lv_bipush (v := 60) hx hb dX10_groans_1 (by decide) ?_
  obtain ⟨r_1, m_2, hc_3, h⟩ := bd_some h
  refine c_V (rest := []) X hP hS (tX3_begins hI  hc_3) (by decide) (L_host _) rfl wt_5_97 wt_5_66 wt_5_67 wt_1_12 wt_5_68 ⟨rfl, hy_X3_begins⟩ ⟨rfl, rfl⟩ ⟨Nat.le_of_ble_eq_true rfl, Nat.le_of_ble_eq_true rfl⟩ rfl hl.1 rfl (Nat.le_of_ble_eq_true rfl) dX10_groans_3 rfl (fun H locs hP hS => ?_)
  refine lv_if_eq (tgt := 20) hx hb dX10_groans_6 (by decide) (fun c_4 => ?_) (fun c_4 => ?_)
  · have h := ifp c_4 h
    refine lv_iconst (v := 0) hx hb dX10_groans_20 (by decide) ?_
    exact r_iret X hP hS dX10_groans_21 h
  · have h := ifn c_4 h
    refine lv_aload_n hx hb dX10_groans_9 rfl (lv_at hl 0 rfl) ?_
    refine lv_aload_n hx hb dX10_groans_10 rfl (lv_at hl 1 rfl) ?_
    refine lv_iload_n hx hb dX10_groans_11 rfl (lv_at hl 2 rfl) ?_
    refine lv_iconst (v := 4) hx hb dX10_groans_12 (by decide) ?_
    refine lv_iadd hx hb dX10_groans_13 ?_
    obtain ⟨r_5, m_6, hc_7, h⟩ := bd_some h
    refine c_SUU (rest := []) "BenchTowels$Plain" X hP hS (tX6_groans hI (by decide) hc_7) (lt_k (by decide)) (L_kind (by decide) _) (kc_kind (by decide)) rfl wt_5_98 wt_5_99 wt_1_162 wt_1_155 wt_5_83 wt_1_4 wt_5_101 hyS_X6_groans ⟨rfl, rfl⟩ ⟨Nat.le_of_ble_eq_true rfl, Nat.le_of_ble_eq_true rfl⟩ rfl hl.1 rfl (Nat.le_of_ble_eq_true rfl) dX10_groans_14 rfl (fun H locs hP hS => ?_)
    refine lv_goto (tgt := 21) hx hb dX10_groans_17 (by decide) ?_
    exact r_iret X hP hS dX10_groans_21 h

def v_groans (k : Nat) (a2 : Int32) (m : Mm) : Option (Int32 × Mm) := if k = 0 then fX6_groans k a2 m else if k = 1 then fX6_groans k a2 m else if k = 2 then fX9_groans k a2 m else if k = 3 then fX9_groans k a2 m else if k = 4 then fX6_groans k a2 m else if k = 5 then fX10_groans a2 m else none

set_option maxHeartbeats 4000000 in
theorem vc_6_34 {R : Room} {H : Heap} {locs : List Loc} {Q : State → Prop} {m m1 : Mm} {cc : ByteArray} {nL pc pc' : Nat} {ret : Option FieldType} {ls : Array Slot} {rest : List Value} {k : Nat} {r : Int32} {a2 : Int32} (X : CX cLay cN D cA A p s m0 args meth c "BenchTowels$Plain" cc nL ret) (hP : va_P D vwCl (wsOf cLay cN cA A m) H) (hS : va_S (AW cN A) s.heap H locs) (hI : InjA cN A) (hk : k < 6) (hv : v_groans k a2 m = some (r, m1)) (hR : 4 + 1 ≤ R.frames ∧ 19 + 90 ≤ R.locals) (hs : ls.size = nL) (hW : (rest.map fun v => v.category).sum ≤ 8) (hdg : decode cc pc = .ok (.invokevirtual 34, 3)) (hpc : pc + 3 = pc')
    (kk : ∀ (H1 : Heap) (locs1 : List Loc), va_P D vwCl (wsOf cLay cN cA A m1) H1 → va_S (AW cN A) s.heap H1 locs1 → W p l e R s m0 args below meth c H1 locs1 0 0 Q (F0 m0 pc' ls (.int r :: rest))) : W p l e R s m0 args below meth c H locs 0 0 Q (F0 m0 pc ls (.int a2 :: .ref (A 52) :: .ref (A (kp k)) :: rest)) := by
  unfold v_groans at hv
  rcases (show k = 0 ∨ k = 1 ∨ k = 2 ∨ k = 3 ∨ k = 4 ∨ k = 5 by omega) with rfl | rfl | rfl | rfl | rfl | rfl
  · have hv := ifp rfl hv
    exact c_U (rest := rest) "BenchTowels$Plain" X hP hS (tX6_groans hI (by decide) hv) (lt_k (by decide)) (L_kind (by decide) _) rfl wt_5_142 wt_5_85 wt_5_83 wt_5_84 wt_5_83 wt_1_4 wt_5_101 wt_5_101 hyU_X6_groans ⟨rfl, rfl⟩ ⟨Nat.le_trans (Nat.le_of_ble_eq_true rfl) hR.1, Nat.le_trans (Nat.le_of_ble_eq_true rfl) hR.2⟩ rfl hs rfl hW hdg hpc kk
  · have hv := ifn (by decide) hv
    have hv := ifp rfl hv
    exact c_U (rest := rest) "BenchTowels$Plain" X hP hS (tX6_groans hI (by decide) hv) (lt_k (by decide)) (L_kind (by decide) _) rfl wt_5_142 wt_5_85 wt_5_83 wt_5_86 wt_5_83 wt_1_4 wt_5_101 wt_5_101 hyU_X6_groans ⟨rfl, rfl⟩ ⟨Nat.le_trans (Nat.le_of_ble_eq_true rfl) hR.1, Nat.le_trans (Nat.le_of_ble_eq_true rfl) hR.2⟩ rfl hs rfl hW hdg hpc kk
  · have hv := ifn (by decide) hv
    have hv := ifn (by decide) hv
    have hv := ifp rfl hv
    exact c_U (rest := rest) "BenchTowels$Plain" X hP hS (tX9_groans hI (by decide) hv) (lt_k (by decide)) (L_kind (by decide) _) rfl wt_5_142 wt_5_85 wt_5_83 wt_5_93 wt_5_89 wt_1_6 wt_5_90 wt_5_101 hyU_X6_groans ⟨rfl, rfl⟩ ⟨Nat.le_trans (Nat.le_of_ble_eq_true rfl) hR.1, Nat.le_trans (Nat.le_of_ble_eq_true rfl) hR.2⟩ rfl hs rfl hW hdg hpc kk
  · have hv := ifn (by decide) hv
    have hv := ifn (by decide) hv
    have hv := ifn (by decide) hv
    have hv := ifp rfl hv
    exact c_U (rest := rest) "BenchTowels$Plain" X hP hS (tX9_groans hI (by decide) hv) (lt_k (by decide)) (L_kind (by decide) _) rfl wt_5_142 wt_5_85 wt_5_83 wt_5_88 wt_5_89 wt_1_6 wt_5_90 wt_5_101 hyU_X6_groans ⟨rfl, rfl⟩ ⟨Nat.le_trans (Nat.le_of_ble_eq_true rfl) hR.1, Nat.le_trans (Nat.le_of_ble_eq_true rfl) hR.2⟩ rfl hs rfl hW hdg hpc kk
  · have hv := ifn (by decide) hv
    have hv := ifn (by decide) hv
    have hv := ifn (by decide) hv
    have hv := ifn (by decide) hv
    have hv := ifp rfl hv
    exact c_U (rest := rest) "BenchTowels$Plain" X hP hS (tX6_groans hI (by decide) hv) (lt_k (by decide)) (L_kind (by decide) _) rfl wt_5_142 wt_5_85 wt_5_83 wt_5_87 wt_5_83 wt_1_4 wt_5_101 wt_5_101 hyU_X6_groans ⟨rfl, rfl⟩ ⟨Nat.le_trans (Nat.le_of_ble_eq_true rfl) hR.1, Nat.le_trans (Nat.le_of_ble_eq_true rfl) hR.2⟩ rfl hs rfl hW hdg hpc kk
  · have hv := ifn (by decide) hv
    have hv := ifn (by decide) hv
    have hv := ifn (by decide) hv
    have hv := ifn (by decide) hv
    have hv := ifn (by decide) hv
    have hv := ifp rfl hv
    exact c_U (rest := rest) "BenchTowels$Plain" X hP hS (tX10_groans hI  hv) (lt_k (by decide)) (L_kind (by decide) _) rfl wt_5_142 wt_5_85 wt_5_83 wt_5_94 wt_5_95 wt_1_9 wt_5_96 wt_5_101 hyU_X6_groans ⟨rfl, rfl⟩ ⟨Nat.le_trans (Nat.le_of_ble_eq_true rfl) hR.1, Nat.le_trans (Nat.le_of_ble_eq_true rfl) hR.2⟩ rfl hs rfl hW hdg hpc kk

def fX2_parts (k : Nat) (a2 : Int32) (m : Mm) : Option (Int32 × Mm) := bd (fX3_begins (40 : Int32) m) fun r_1 m_2 => (if r_1 = 0 then some (0, m_2) else bd (fX6_parts k a2 m_2) fun r_5 m_6 => some ((r_5 ^^^ (m_6 52 8)), m_6))
set_option maxHeartbeats 4000000 in
set_option maxRecDepth 100000 in
theorem tX2_parts {l : Launch} {D : va_G} {cA : Nat → ClassId} {A : Nat → Nat} (hI : InjA cN A) {k : Nat} (hk : k < 6) {a2 : Int32} {m m' : Mm} {r : Int32} (h : fX2_parts k a2 m = some (r, m')) : Met0 l yX2_parts cX2_parts 3 (some .int) { frames := 2, cells := 0, slots := 0, locals := 44 } cLay cN D cA A [.ref (A (kp k)), .ref (A 52), .int a2] m (some (.int r)) m' := by
  refine met0_of (by decide) (Nat.le_of_ble_eq_true rfl) hI ?_
  intro p e s m0 below meth c ls X hinit hP hS hl
  generalize ([.ref (A (kp k)), .ref (A 52), .int a2] : List Value).toArray = args at X ⊢
  have hl : lv_has ls 3 [(0, .ref (A (kp k))), (1, .ref (A 52)), (2, .int a2)] := hl
  have X : CX cLay cN D cA A p s m0 args meth c "BenchTowels$Held" cX2_parts 3 (some .int) := X
  have hx := X.1
  have hb := X.2.1
  have hml := X.2.2.1
  have hown := X.2.2.2.1
  have hts := X.2.2.2.2.1
  have hF := X.2.2.2.2.2.2.2.2.1
  rewrite [fX2_parts] at h
  refine lv_aload_n hx hb dX2_parts_0 rfl (lv_at hl 1 rfl) ?_
  refine lv_bipush (v := 40) hx hb dX2_parts_1 (by decide) ?_
  obtain ⟨r_1, m_2, hc_3, h⟩ := bd_some h
  refine c_V (rest := []) X hP hS (tX3_begins hI  hc_3) (by decide) (L_host _) rfl wt_5_111 wt_5_66 wt_5_67 wt_1_12 wt_5_68 ⟨rfl, hy_X3_begins⟩ ⟨rfl, rfl⟩ ⟨Nat.le_of_ble_eq_true rfl, Nat.le_of_ble_eq_true rfl⟩ rfl hl.1 rfl (Nat.le_of_ble_eq_true rfl) dX2_parts_3 rfl (fun H locs hP hS => ?_)
  refine lv_if_eq (tgt := 23) hx hb dX2_parts_6 (by decide) (fun c_4 => ?_) (fun c_4 => ?_)
  · have h := ifp c_4 h
    refine lv_iconst (v := 0) hx hb dX2_parts_23 (by decide) ?_
    exact r_iret X hP hS dX2_parts_24 h
  · have h := ifn c_4 h
    refine lv_aload_n hx hb dX2_parts_9 rfl (lv_at hl 0 rfl) ?_
    refine lv_aload_n hx hb dX2_parts_10 rfl (lv_at hl 1 rfl) ?_
    refine lv_iload_n hx hb dX2_parts_11 rfl (lv_at hl 2 rfl) ?_
    obtain ⟨r_5, m_6, hc_7, h⟩ := bd_some h
    refine c_SU (rest := []) X hP hS (tX6_parts hI hk hc_7) (lt_k hk) (L_kind hk _) (kc_kind hk) wt_5_112 wt_5_106 wt_1_155 wt_5_104 wt_1_4 wt_5_122 hyS_X6_parts ⟨rfl, rfl⟩ ⟨Nat.le_of_ble_eq_true rfl, Nat.le_of_ble_eq_true rfl⟩ rfl hl.1 rfl (Nat.le_of_ble_eq_true rfl) dX2_parts_12 rfl (fun H locs hP hS => ?_)
    refine lv_aload_n hx hb dX2_parts_15 rfl (lv_at hl 1 rfl) ?_
    refine r_get kc_3 8 X hP (by decide) (L_host _) (by decide) rfl wt_2_60 dX2_parts_16 ?_
    refine lv_ixor hx hb dX2_parts_19 ?_
    refine lv_goto (tgt := 24) hx hb dX2_parts_20 (by decide) ?_
    exact r_iret X hP hS dX2_parts_24 h

def fX10_parts (a2 : Int32) (m : Mm) : Option (Int32 × Mm) := bd (fX3_begins (61 : Int32) m) fun r_1 m_2 => (if r_1 = 0 then some (0, m_2) else bd (fX2_parts 5 a2 m_2) fun r_5 m_6 => bd (fX6_lifts 5 (1 : Int32) m_6) fun r_8 m_9 => some ((r_5 * r_8), m_9))
set_option maxHeartbeats 4000000 in
set_option maxRecDepth 100000 in
theorem tX10_parts {l : Launch} {D : va_G} {cA : Nat → ClassId} {A : Nat → Nat} (hI : InjA cN A) {a2 : Int32} {m m' : Mm} {r : Int32} (h : fX10_parts a2 m = some (r, m')) : Met0 l yX10_parts cX10_parts 3 (some .int) { frames := 3, cells := 0, slots := 0, locals := 66 } cLay cN D cA A [.ref (A (kp 5)), .ref (A 52), .int a2] m (some (.int r)) m' := by
  refine met0_of (by decide) (Nat.le_of_ble_eq_true rfl) hI ?_
  intro p e s m0 below meth c ls X hinit hP hS hl
  generalize ([.ref (A (kp 5)), .ref (A 52), .int a2] : List Value).toArray = args at X ⊢
  have hl : lv_has ls 3 [(0, .ref (A (kp 5))), (1, .ref (A 52)), (2, .int a2)] := hl
  have X : CX cLay cN D cA A p s m0 args meth c "BenchTowels$Unasked" cX10_parts 3 (some .int) := X
  have hx := X.1
  have hb := X.2.1
  have hml := X.2.2.1
  have hown := X.2.2.2.1
  have hts := X.2.2.2.2.1
  have hF := X.2.2.2.2.2.2.2.2.1
  rewrite [fX10_parts] at h
  refine lv_aload_n hx hb dX10_parts_0 rfl (lv_at hl 1 rfl) ?_
  refine lv_bipush (v := 61) hx hb dX10_parts_1 (by decide) ?_
  obtain ⟨r_1, m_2, hc_3, h⟩ := bd_some h
  refine c_V (rest := []) X hP hS (tX3_begins hI  hc_3) (by decide) (L_host _) rfl wt_5_97 wt_5_66 wt_5_67 wt_1_12 wt_5_68 ⟨rfl, hy_X3_begins⟩ ⟨rfl, rfl⟩ ⟨Nat.le_of_ble_eq_true rfl, Nat.le_of_ble_eq_true rfl⟩ rfl hl.1 rfl (Nat.le_of_ble_eq_true rfl) dX10_parts_3 rfl (fun H locs hP hS => ?_)
  refine lv_if_eq (tgt := 25) hx hb dX10_parts_6 (by decide) (fun c_4 => ?_) (fun c_4 => ?_)
  · have h := ifp c_4 h
    refine lv_iconst (v := 0) hx hb dX10_parts_25 (by decide) ?_
    exact r_iret X hP hS dX10_parts_26 h
  · have h := ifn c_4 h
    refine lv_aload_n hx hb dX10_parts_9 rfl (lv_at hl 0 rfl) ?_
    refine lv_aload_n hx hb dX10_parts_10 rfl (lv_at hl 1 rfl) ?_
    refine lv_iload_n hx hb dX10_parts_11 rfl (lv_at hl 2 rfl) ?_
    obtain ⟨r_5, m_6, hc_7, h⟩ := bd_some h
    refine c_SU (rest := []) X hP hS (tX2_parts hI (by decide) hc_7) (lt_k (by decide)) (L_kind (by decide) _) (kc_kind (by decide)) wt_5_118 wt_8_71 wt_1_162 wt_5_109 wt_1_8 wt_5_110 hyS_X2_parts ⟨rfl, rfl⟩ ⟨Nat.le_of_ble_eq_true rfl, Nat.le_of_ble_eq_true rfl⟩ rfl hl.1 rfl (Nat.le_of_ble_eq_true rfl) dX10_parts_12 rfl (fun H locs hP hS => ?_)
    refine lv_aload_n hx hb dX10_parts_15 rfl (lv_at hl 0 rfl) ?_
    refine lv_aload_n hx hb dX10_parts_16 rfl (lv_at hl 1 rfl) ?_
    refine lv_iconst (v := 1) hx hb dX10_parts_17 (by decide) ?_
    obtain ⟨r_8, m_9, hc_10, h⟩ := bd_some h
    refine c_U (rest := [.int r_5]) "BenchTowels$Plain" X hP hS (tX6_lifts hI (by decide) hc_10) (lt_k (by decide)) (L_kind (by decide) _) rfl wt_5_119 wt_5_120 wt_5_59 wt_5_121 wt_5_59 wt_1_4 wt_5_80 wt_5_80 hyU_X6_lifts ⟨rfl, rfl⟩ ⟨Nat.le_of_ble_eq_true rfl, Nat.le_of_ble_eq_true rfl⟩ rfl hl.1 rfl (Nat.le_of_ble_eq_true rfl) dX10_parts_18 rfl (fun H locs hP hS => ?_)
    refine lv_imul hx hb dX10_parts_21 ?_
    refine lv_goto (tgt := 26) hx hb dX10_parts_22 (by decide) ?_
    exact r_iret X hP hS dX10_parts_26 h

def v_parts (k : Nat) (a2 : Int32) (m : Mm) : Option (Int32 × Mm) := if k = 0 then fX6_parts k a2 m else if k = 1 then fX6_parts k a2 m else if k = 2 then fX6_parts k a2 m else if k = 3 then fX6_parts k a2 m else if k = 4 then fX2_parts k a2 m else if k = 5 then fX10_parts a2 m else none

set_option maxHeartbeats 4000000 in
theorem vc_6_37 {R : Room} {H : Heap} {locs : List Loc} {Q : State → Prop} {m m1 : Mm} {cc : ByteArray} {nL pc pc' : Nat} {ret : Option FieldType} {ls : Array Slot} {rest : List Value} {k : Nat} {r : Int32} {a2 : Int32} (X : CX cLay cN D cA A p s m0 args meth c "BenchTowels$Plain" cc nL ret) (hP : va_P D vwCl (wsOf cLay cN cA A m) H) (hS : va_S (AW cN A) s.heap H locs) (hI : InjA cN A) (hk : k < 6) (hv : v_parts k a2 m = some (r, m1)) (hR : 3 + 1 ≤ R.frames ∧ 19 + 69 ≤ R.locals) (hs : ls.size = nL) (hW : (rest.map fun v => v.category).sum ≤ 8) (hdg : decode cc pc = .ok (.invokevirtual 37, 3)) (hpc : pc + 3 = pc')
    (kk : ∀ (H1 : Heap) (locs1 : List Loc), va_P D vwCl (wsOf cLay cN cA A m1) H1 → va_S (AW cN A) s.heap H1 locs1 → W p l e R s m0 args below meth c H1 locs1 0 0 Q (F0 m0 pc' ls (.int r :: rest))) : W p l e R s m0 args below meth c H locs 0 0 Q (F0 m0 pc ls (.int a2 :: .ref (A 52) :: .ref (A (kp k)) :: rest)) := by
  unfold v_parts at hv
  rcases (show k = 0 ∨ k = 1 ∨ k = 2 ∨ k = 3 ∨ k = 4 ∨ k = 5 by omega) with rfl | rfl | rfl | rfl | rfl | rfl
  · have hv := ifp rfl hv
    exact c_U (rest := rest) "BenchTowels$Plain" X hP hS (tX6_parts hI (by decide) hv) (lt_k (by decide)) (L_kind (by decide) _) rfl wt_5_143 wt_5_106 wt_5_104 wt_5_105 wt_5_104 wt_1_4 wt_5_122 wt_5_122 hyU_X6_parts ⟨rfl, rfl⟩ ⟨Nat.le_trans (Nat.le_of_ble_eq_true rfl) hR.1, Nat.le_trans (Nat.le_of_ble_eq_true rfl) hR.2⟩ rfl hs rfl hW hdg hpc kk
  · have hv := ifn (by decide) hv
    have hv := ifp rfl hv
    exact c_U (rest := rest) "BenchTowels$Plain" X hP hS (tX6_parts hI (by decide) hv) (lt_k (by decide)) (L_kind (by decide) _) rfl wt_5_143 wt_5_106 wt_5_104 wt_5_107 wt_5_104 wt_1_4 wt_5_122 wt_5_122 hyU_X6_parts ⟨rfl, rfl⟩ ⟨Nat.le_trans (Nat.le_of_ble_eq_true rfl) hR.1, Nat.le_trans (Nat.le_of_ble_eq_true rfl) hR.2⟩ rfl hs rfl hW hdg hpc kk
  · have hv := ifn (by decide) hv
    have hv := ifn (by decide) hv
    have hv := ifp rfl hv
    exact c_U (rest := rest) "BenchTowels$Plain" X hP hS (tX6_parts hI (by decide) hv) (lt_k (by decide)) (L_kind (by decide) _) rfl wt_5_143 wt_5_106 wt_5_104 wt_5_114 wt_5_104 wt_1_4 wt_5_122 wt_5_122 hyU_X6_parts ⟨rfl, rfl⟩ ⟨Nat.le_trans (Nat.le_of_ble_eq_true rfl) hR.1, Nat.le_trans (Nat.le_of_ble_eq_true rfl) hR.2⟩ rfl hs rfl hW hdg hpc kk
  · have hv := ifn (by decide) hv
    have hv := ifn (by decide) hv
    have hv := ifn (by decide) hv
    have hv := ifp rfl hv
    exact c_U (rest := rest) "BenchTowels$Plain" X hP hS (tX6_parts hI (by decide) hv) (lt_k (by decide)) (L_kind (by decide) _) rfl wt_5_143 wt_5_106 wt_5_104 wt_5_113 wt_5_104 wt_1_4 wt_5_122 wt_5_122 hyU_X6_parts ⟨rfl, rfl⟩ ⟨Nat.le_trans (Nat.le_of_ble_eq_true rfl) hR.1, Nat.le_trans (Nat.le_of_ble_eq_true rfl) hR.2⟩ rfl hs rfl hW hdg hpc kk
  · have hv := ifn (by decide) hv
    have hv := ifn (by decide) hv
    have hv := ifn (by decide) hv
    have hv := ifn (by decide) hv
    have hv := ifp rfl hv
    exact c_U (rest := rest) "BenchTowels$Plain" X hP hS (tX2_parts hI (by decide) hv) (lt_k (by decide)) (L_kind (by decide) _) rfl wt_5_143 wt_5_106 wt_5_104 wt_5_108 wt_5_109 wt_1_8 wt_5_110 wt_5_122 hyU_X6_parts ⟨rfl, rfl⟩ ⟨Nat.le_trans (Nat.le_of_ble_eq_true rfl) hR.1, Nat.le_trans (Nat.le_of_ble_eq_true rfl) hR.2⟩ rfl hs rfl hW hdg hpc kk
  · have hv := ifn (by decide) hv
    have hv := ifn (by decide) hv
    have hv := ifn (by decide) hv
    have hv := ifn (by decide) hv
    have hv := ifn (by decide) hv
    have hv := ifp rfl hv
    exact c_U (rest := rest) "BenchTowels$Plain" X hP hS (tX10_parts hI  hv) (lt_k (by decide)) (L_kind (by decide) _) rfl wt_5_143 wt_5_106 wt_5_104 wt_5_115 wt_5_116 wt_1_9 wt_5_117 wt_5_122 hyU_X6_parts ⟨rfl, rfl⟩ ⟨Nat.le_trans (Nat.le_of_ble_eq_true rfl) hR.1, Nat.le_trans (Nat.le_of_ble_eq_true rfl) hR.2⟩ rfl hs rfl hW hdg hpc kk

def fX6_wipes (k : Nat) (a2 : Int32) (m : Mm) : Option (Int32 × Mm) := bd (fX3_begins (13 : Int32) m) fun r_1 m_2 => (if r_1 = 0 then some (0, m_2) else bd (v_groans k a2 m_2) fun r_5 m_6 => bd (v_parts k a2 m_6) fun r_8 m_9 => some ((r_5 - r_8), m_9))
set_option maxHeartbeats 4000000 in
set_option maxRecDepth 100000 in
theorem tX6_wipes {l : Launch} {D : va_G} {cA : Nat → ClassId} {A : Nat → Nat} (hI : InjA cN A) {k : Nat} (hk : k < 6) {a2 : Int32} {m m' : Mm} {r : Int32} (h : fX6_wipes k a2 m = some (r, m')) : Met0 l yX6_wipes cX6_wipes 3 (some .int) { frames := 5, cells := 0, slots := 0, locals := 109 } cLay cN D cA A [.ref (A (kp k)), .ref (A 52), .int a2] m (some (.int r)) m' := by
  refine met0_of (by decide) (Nat.le_of_ble_eq_true rfl) hI ?_
  intro p e s m0 below meth c ls X hinit hP hS hl
  generalize ([.ref (A (kp k)), .ref (A 52), .int a2] : List Value).toArray = args at X ⊢
  have hl : lv_has ls 3 [(0, .ref (A (kp k))), (1, .ref (A 52)), (2, .int a2)] := hl
  have X : CX cLay cN D cA A p s m0 args meth c "BenchTowels$Plain" cX6_wipes 3 (some .int) := X
  have hx := X.1
  have hb := X.2.1
  have hml := X.2.2.1
  have hown := X.2.2.2.1
  have hts := X.2.2.2.2.1
  have hF := X.2.2.2.2.2.2.2.2.1
  rewrite [fX6_wipes] at h
  refine lv_aload_n hx hb dX6_wipes_0 rfl (lv_at hl 1 rfl) ?_
  refine lv_bipush (v := 13) hx hb dX6_wipes_1 (by decide) ?_
  obtain ⟨r_1, m_2, hc_3, h⟩ := bd_some h
  refine c_V (rest := []) X hP hS (tX3_begins hI  hc_3) (by decide) (L_host _) rfl wt_5_81 wt_5_66 wt_5_67 wt_1_12 wt_5_68 ⟨rfl, hy_X3_begins⟩ ⟨rfl, rfl⟩ ⟨Nat.le_of_ble_eq_true rfl, Nat.le_of_ble_eq_true rfl⟩ rfl hl.1 rfl (Nat.le_of_ble_eq_true rfl) dX6_wipes_3 rfl (fun H locs hP hS => ?_)
  refine lv_if_eq (tgt := 25) hx hb dX6_wipes_6 (by decide) (fun c_4 => ?_) (fun c_4 => ?_)
  · have h := ifp c_4 h
    refine lv_iconst (v := 0) hx hb dX6_wipes_25 (by decide) ?_
    exact r_iret X hP hS dX6_wipes_26 h
  · have h := ifn c_4 h
    refine lv_aload_n hx hb dX6_wipes_9 rfl (lv_at hl 0 rfl) ?_
    refine lv_aload_n hx hb dX6_wipes_10 rfl (lv_at hl 1 rfl) ?_
    refine lv_iload_n hx hb dX6_wipes_11 rfl (lv_at hl 2 rfl) ?_
    obtain ⟨r_5, m_6, hc_7, h⟩ := bd_some h
    refine vc_6_34 (rest := []) X hP hS hI hk hc_7 ⟨Nat.le_of_ble_eq_true rfl, Nat.le_of_ble_eq_true rfl⟩ hl.1 (Nat.le_of_ble_eq_true rfl) dX6_wipes_12 rfl (fun H locs hP hS => ?_)
    refine lv_aload_n hx hb dX6_wipes_15 rfl (lv_at hl 0 rfl) ?_
    refine lv_aload_n hx hb dX6_wipes_16 rfl (lv_at hl 1 rfl) ?_
    refine lv_iload_n hx hb dX6_wipes_17 rfl (lv_at hl 2 rfl) ?_
    obtain ⟨r_8, m_9, hc_10, h⟩ := bd_some h
    refine vc_6_37 (rest := [.int r_5]) X hP hS hI hk hc_10 ⟨Nat.le_of_ble_eq_true rfl, Nat.le_of_ble_eq_true rfl⟩ hl.1 (Nat.le_of_ble_eq_true rfl) dX6_wipes_18 rfl (fun H locs hP hS => ?_)
    refine lv_isub hx hb dX6_wipes_21 ?_
    refine lv_goto (tgt := 26) hx hb dX6_wipes_22 (by decide) ?_
    exact r_iret X hP hS dX6_wipes_26 h

def fX0_may (a1 : Int32) (a2 : Int32) (m : Mm) : Option (Int32 × Mm) := (if a2 = 0 then some (0, m) else bd (fX6_may 1 a1 a2 m) fun r_2 m_3 => (if r_2 = 0 then some (0, m_3) else some (1, m_3)))
set_option maxHeartbeats 4000000 in
set_option maxRecDepth 100000 in
theorem tX0_may {l : Launch} {D : va_G} {cA : Nat → ClassId} {A : Nat → Nat} (hI : InjA cN A) {a1 : Int32} {a2 : Int32} {m m' : Mm} {r : Int32} (h : fX0_may a1 a2 m = some (r, m')) : Met0 l yX0_may cX0_may 3 (some .boolean) { frames := 2, cells := 0, slots := 0, locals := 43 } cLay cN D cA A [.ref (A (kp 1)), .int a1, .int a2] m (some (.int r)) m' := by
  refine met0_of (by decide) (Nat.le_of_ble_eq_true rfl) hI ?_
  intro p e s m0 below meth c ls X hinit hP hS hl
  generalize ([.ref (A (kp 1)), .int a1, .int a2] : List Value).toArray = args at X ⊢
  have hl : lv_has ls 3 [(0, .ref (A (kp 1))), (1, .int a1), (2, .int a2)] := hl
  have X : CX cLay cN D cA A p s m0 args meth c "BenchTowels$Alone" cX0_may 3 (some .boolean) := X
  have hx := X.1
  have hb := X.2.1
  have hml := X.2.2.1
  have hown := X.2.2.2.1
  have hts := X.2.2.2.2.1
  have hF := X.2.2.2.2.2.2.2.2.1
  rewrite [fX0_may] at h
  refine lv_iload_n hx hb dX0_may_0 rfl (lv_at hl 2 rfl) ?_
  refine lv_if_eq (tgt := 17) hx hb dX0_may_1 (by decide) (fun c_1 => ?_) (fun c_1 => ?_)
  · have h := ifp c_1 h
    refine lv_iconst (v := 0) hx hb dX0_may_17 (by decide) ?_
    exact r_zret X (Or.inl rfl) hP hS dX0_may_18 h
  · have h := ifn c_1 h
    refine lv_aload_n hx hb dX0_may_4 rfl (lv_at hl 0 rfl) ?_
    refine lv_iload_n hx hb dX0_may_5 rfl (lv_at hl 1 rfl) ?_
    refine lv_iload_n hx hb dX0_may_6 rfl (lv_at hl 2 rfl) ?_
    obtain ⟨r_2, m_3, hc_4, h⟩ := bd_some h
    refine c_SU (rest := []) X hP hS (tX6_may hI (by decide) hc_4) (lt_k (by decide)) (L_kind (by decide) _) (kc_kind (by decide)) wt_2_175 wt_2_171 wt_1_134 wt_2_169 wt_1_4 wt_2_196 hyS_X6_may ⟨rfl, rfl⟩ ⟨Nat.le_of_ble_eq_true rfl, Nat.le_of_ble_eq_true rfl⟩ rfl hl.1 rfl (Nat.le_of_ble_eq_true rfl) dX0_may_7 rfl (fun H locs hP hS => ?_)
    refine lv_if_eq (tgt := 17) hx hb dX0_may_10 (by decide) (fun c_5 => ?_) (fun c_5 => ?_)
    · have h := ifp c_5 h
      refine lv_iconst (v := 0) hx hb dX0_may_17 (by decide) ?_
      exact r_zret X (Or.inl rfl) hP hS dX0_may_18 h
    · have h := ifn c_5 h
      refine lv_iconst (v := 1) hx hb dX0_may_13 (by decide) ?_
      refine lv_goto (tgt := 18) hx hb dX0_may_14 (by decide) ?_
      exact r_zret X (Or.inr rfl) hP hS dX0_may_18 h

def fX0_gains (a1 : Int32) (a2 : Int32) (m : Mm) : Option (Int32 × Mm) := bd (fX6_gains 1 a1 a2 m) fun r_1 m_2 => some ((r_1 + 2), m_2)
set_option maxHeartbeats 4000000 in
set_option maxRecDepth 100000 in
theorem tX0_gains {l : Launch} {D : va_G} {cA : Nat → ClassId} {A : Nat → Nat} (hI : InjA cN A) {a1 : Int32} {a2 : Int32} {m m' : Mm} {r : Int32} (h : fX0_gains a1 a2 m = some (r, m')) : Met0 l yX0_gains cX0_gains 3 (some .int) { frames := 1, cells := 0, slots := 0, locals := 22 } cLay cN D cA A [.ref (A (kp 1)), .int a1, .int a2] m (some (.int r)) m' := by
  refine met0_of (by decide) (Nat.le_of_ble_eq_true rfl) hI ?_
  intro p e s m0 below meth c ls X hinit hP hS hl
  generalize ([.ref (A (kp 1)), .int a1, .int a2] : List Value).toArray = args at X ⊢
  have hl : lv_has ls 3 [(0, .ref (A (kp 1))), (1, .int a1), (2, .int a2)] := hl
  have X : CX cLay cN D cA A p s m0 args meth c "BenchTowels$Alone" cX0_gains 3 (some .int) := X
  have hx := X.1
  have hb := X.2.1
  have hml := X.2.2.1
  have hown := X.2.2.2.1
  have hts := X.2.2.2.2.1
  have hF := X.2.2.2.2.2.2.2.2.1
  rewrite [fX0_gains] at h
  refine lv_aload_n hx hb dX0_gains_0 rfl (lv_at hl 0 rfl) ?_
  refine lv_iload_n hx hb dX0_gains_1 rfl (lv_at hl 1 rfl) ?_
  refine lv_iload_n hx hb dX0_gains_2 rfl (lv_at hl 2 rfl) ?_
  obtain ⟨r_1, m_2, hc_3, h⟩ := bd_some h
  refine c_SU (rest := []) X hP hS (tX6_gains hI (by decide) hc_3) (lt_k (by decide)) (L_kind (by decide) _) (kc_kind (by decide)) wt_2_209 wt_2_205 wt_1_134 wt_2_203 wt_1_4 wt_2_225 hyS_X6_gains ⟨rfl, rfl⟩ ⟨Nat.le_of_ble_eq_true rfl, Nat.le_of_ble_eq_true rfl⟩ rfl hl.1 rfl (Nat.le_of_ble_eq_true rfl) dX0_gains_3 rfl (fun H locs hP hS => ?_)
  refine lv_iconst (v := 2) hx hb dX0_gains_6 (by decide) ?_
  refine lv_iadd hx hb dX0_gains_7 ?_
  exact r_iret X hP hS dX0_gains_8 h

def fX0_tires  (m : Mm) : Option (Int32 × Mm) := some (3, m)
set_option maxHeartbeats 4000000 in
set_option maxRecDepth 100000 in
theorem tX0_tires {l : Launch} {D : va_G} {cA : Nat → ClassId} {A : Nat → Nat} (hI : InjA cN A) {m m' : Mm} {r : Int32} (h : fX0_tires m = some (r, m')) : Met0 l yX0_tires cX0_tires 1 (some .int) { frames := 0, cells := 0, slots := 0, locals := 0 } cLay cN D cA A [.ref (A (kp 1))] m (some (.int r)) m' := by
  refine met0_of (by decide) (Nat.le_of_ble_eq_true rfl) hI ?_
  intro p e s m0 below meth c ls X hinit hP hS hl
  generalize ([.ref (A (kp 1))] : List Value).toArray = args at X ⊢
  have hl : lv_has ls 1 [(0, .ref (A (kp 1)))] := hl
  have X : CX cLay cN D cA A p s m0 args meth c "BenchTowels$Alone" cX0_tires 1 (some .int) := X
  have hx := X.1
  have hb := X.2.1
  have hml := X.2.2.1
  have hown := X.2.2.2.1
  have hts := X.2.2.2.2.1
  have hF := X.2.2.2.2.2.2.2.2.1
  rewrite [fX0_tires] at h
  refine lv_iconst (v := 3) hx hb dX0_tires_0 (by decide) ?_
  exact r_iret X hP hS dX0_tires_1 h

def fX9_may (k : Nat) (a1 : Int32) (a2 : Int32) (m : Mm) : Option (Int32 × Mm) := (if (a2 - a2 / 2 * 2) = 1 then some (1, m) else bd (fX6_may k a1 a2 m) fun r_2 m_3 => (if r_2 = 0 then some (0, m_3) else some (1, m_3)))
set_option maxHeartbeats 4000000 in
set_option maxRecDepth 100000 in
theorem tX9_may {l : Launch} {D : va_G} {cA : Nat → ClassId} {A : Nat → Nat} (hI : InjA cN A) {k : Nat} (hk : k < 6) {a1 : Int32} {a2 : Int32} {m m' : Mm} {r : Int32} (h : fX9_may k a1 a2 m = some (r, m')) : Met0 l yX9_may cX9_may 3 (some .boolean) { frames := 2, cells := 0, slots := 0, locals := 43 } cLay cN D cA A [.ref (A (kp k)), .int a1, .int a2] m (some (.int r)) m' := by
  refine met0_of (by decide) (Nat.le_of_ble_eq_true rfl) hI ?_
  intro p e s m0 below meth c ls X hinit hP hS hl
  generalize ([.ref (A (kp k)), .int a1, .int a2] : List Value).toArray = args at X ⊢
  have hl : lv_has ls 3 [(0, .ref (A (kp k))), (1, .int a1), (2, .int a2)] := hl
  have X : CX cLay cN D cA A p s m0 args meth c "BenchTowels$Shared" cX9_may 3 (some .boolean) := X
  have hx := X.1
  have hb := X.2.1
  have hml := X.2.2.1
  have hown := X.2.2.2.1
  have hts := X.2.2.2.2.1
  have hF := X.2.2.2.2.2.2.2.2.1
  rewrite [fX9_may] at h
  refine lv_iload_n hx hb dX9_may_0 rfl (lv_at hl 2 rfl) ?_
  refine lv_iconst (v := 2) hx hb dX9_may_1 (by decide) ?_
  refine lv_irem hx hb dX9_may_2 (by decide) ?_
  refine lv_iconst (v := 1) hx hb dX9_may_3 (by decide) ?_
  refine lv_icmp_eq (tgt := 16) hx hb dX9_may_4 (by decide) (fun c_1 => ?_) (fun c_1 => ?_)
  · have h := ifp c_1 h
    refine lv_iconst (v := 1) hx hb dX9_may_16 (by decide) ?_
    refine lv_goto (tgt := 21) hx hb dX9_may_17 (by decide) ?_
    exact r_zret X (Or.inr rfl) hP hS dX9_may_21 h
  · have h := ifn c_1 h
    refine lv_aload_n hx hb dX9_may_7 rfl (lv_at hl 0 rfl) ?_
    refine lv_iload_n hx hb dX9_may_8 rfl (lv_at hl 1 rfl) ?_
    refine lv_iload_n hx hb dX9_may_9 rfl (lv_at hl 2 rfl) ?_
    obtain ⟨r_2, m_3, hc_4, h⟩ := bd_some h
    refine c_SU (rest := []) X hP hS (tX6_may hI hk hc_4) (lt_k hk) (L_kind hk _) (kc_kind hk) wt_2_190 wt_2_171 wt_1_141 wt_2_169 wt_1_4 wt_2_196 hyS_X6_may ⟨rfl, rfl⟩ ⟨Nat.le_of_ble_eq_true rfl, Nat.le_of_ble_eq_true rfl⟩ rfl hl.1 rfl (Nat.le_of_ble_eq_true rfl) dX9_may_10 rfl (fun H locs hP hS => ?_)
    refine lv_if_eq (tgt := 20) hx hb dX9_may_13 (by decide) (fun c_5 => ?_) (fun c_5 => ?_)
    · have h := ifp c_5 h
      refine lv_iconst (v := 0) hx hb dX9_may_20 (by decide) ?_
      exact r_zret X (Or.inl rfl) hP hS dX9_may_21 h
    · have h := ifn c_5 h
      refine lv_iconst (v := 1) hx hb dX9_may_16 (by decide) ?_
      refine lv_goto (tgt := 21) hx hb dX9_may_17 (by decide) ?_
      exact r_zret X (Or.inr rfl) hP hS dX9_may_21 h

def fX9_gains (k : Nat) (a1 : Int32) (a2 : Int32) (m : Mm) : Option (Int32 × Mm) := bd (fX6_gains k a1 a2 m) fun r_1 m_2 => some ((r_1 - 1), m_2)
set_option maxHeartbeats 4000000 in
set_option maxRecDepth 100000 in
theorem tX9_gains {l : Launch} {D : va_G} {cA : Nat → ClassId} {A : Nat → Nat} (hI : InjA cN A) {k : Nat} (hk : k < 6) {a1 : Int32} {a2 : Int32} {m m' : Mm} {r : Int32} (h : fX9_gains k a1 a2 m = some (r, m')) : Met0 l yX9_gains cX9_gains 3 (some .int) { frames := 1, cells := 0, slots := 0, locals := 22 } cLay cN D cA A [.ref (A (kp k)), .int a1, .int a2] m (some (.int r)) m' := by
  refine met0_of (by decide) (Nat.le_of_ble_eq_true rfl) hI ?_
  intro p e s m0 below meth c ls X hinit hP hS hl
  generalize ([.ref (A (kp k)), .int a1, .int a2] : List Value).toArray = args at X ⊢
  have hl : lv_has ls 3 [(0, .ref (A (kp k))), (1, .int a1), (2, .int a2)] := hl
  have X : CX cLay cN D cA A p s m0 args meth c "BenchTowels$Shared" cX9_gains 3 (some .int) := X
  have hx := X.1
  have hb := X.2.1
  have hml := X.2.2.1
  have hown := X.2.2.2.1
  have hts := X.2.2.2.2.1
  have hF := X.2.2.2.2.2.2.2.2.1
  rewrite [fX9_gains] at h
  refine lv_aload_n hx hb dX9_gains_0 rfl (lv_at hl 0 rfl) ?_
  refine lv_iload_n hx hb dX9_gains_1 rfl (lv_at hl 1 rfl) ?_
  refine lv_iload_n hx hb dX9_gains_2 rfl (lv_at hl 2 rfl) ?_
  obtain ⟨r_1, m_2, hc_3, h⟩ := bd_some h
  refine c_SU (rest := []) X hP hS (tX6_gains hI hk hc_3) (lt_k hk) (L_kind hk _) (kc_kind hk) wt_2_217 wt_2_205 wt_1_141 wt_2_203 wt_1_4 wt_2_225 hyS_X6_gains ⟨rfl, rfl⟩ ⟨Nat.le_of_ble_eq_true rfl, Nat.le_of_ble_eq_true rfl⟩ rfl hl.1 rfl (Nat.le_of_ble_eq_true rfl) dX9_gains_3 rfl (fun H locs hP hS => ?_)
  refine lv_iconst (v := 1) hx hb dX9_gains_6 (by decide) ?_
  refine lv_isub hx hb dX9_gains_7 ?_
  exact r_iret X hP hS dX9_gains_8 h

def fX9_tires (k : Nat) (m : Mm) : Option (Int32 × Mm) := some (1, m)
set_option maxHeartbeats 4000000 in
set_option maxRecDepth 100000 in
theorem tX9_tires {l : Launch} {D : va_G} {cA : Nat → ClassId} {A : Nat → Nat} (hI : InjA cN A) {k : Nat} (hk : k < 6) {m m' : Mm} {r : Int32} (h : fX9_tires k m = some (r, m')) : Met0 l yX9_tires cX9_tires 1 (some .int) { frames := 0, cells := 0, slots := 0, locals := 0 } cLay cN D cA A [.ref (A (kp k))] m (some (.int r)) m' := by
  refine met0_of (by decide) (Nat.le_of_ble_eq_true rfl) hI ?_
  intro p e s m0 below meth c ls X hinit hP hS hl
  generalize ([.ref (A (kp k))] : List Value).toArray = args at X ⊢
  have hl : lv_has ls 1 [(0, .ref (A (kp k)))] := hl
  have X : CX cLay cN D cA A p s m0 args meth c "BenchTowels$Shared" cX9_tires 1 (some .int) := X
  have hx := X.1
  have hb := X.2.1
  have hml := X.2.2.1
  have hown := X.2.2.2.1
  have hts := X.2.2.2.2.1
  have hF := X.2.2.2.2.2.2.2.2.1
  rewrite [fX9_tires] at h
  refine lv_iconst (v := 1) hx hb dX9_tires_0 (by decide) ?_
  exact r_iret X hP hS dX9_tires_1 h

def fX5_may (a1 : Int32) (a2 : Int32) (m : Mm) : Option (Int32 × Mm) := some (1, m)
set_option maxHeartbeats 4000000 in
set_option maxRecDepth 100000 in
theorem tX5_may {l : Launch} {D : va_G} {cA : Nat → ClassId} {A : Nat → Nat} (hI : InjA cN A) {a1 : Int32} {a2 : Int32} {m m' : Mm} {r : Int32} (h : fX5_may a1 a2 m = some (r, m')) : Met0 l yX5_may cX5_may 3 (some .boolean) { frames := 0, cells := 0, slots := 0, locals := 0 } cLay cN D cA A [.ref (A (kp 3)), .int a1, .int a2] m (some (.int r)) m' := by
  refine met0_of (by decide) (Nat.le_of_ble_eq_true rfl) hI ?_
  intro p e s m0 below meth c ls X hinit hP hS hl
  generalize ([.ref (A (kp 3)), .int a1, .int a2] : List Value).toArray = args at X ⊢
  have hl : lv_has ls 3 [(0, .ref (A (kp 3))), (1, .int a1), (2, .int a2)] := hl
  have X : CX cLay cN D cA A p s m0 args meth c "BenchTowels$Paired" cX5_may 3 (some .boolean) := X
  have hx := X.1
  have hb := X.2.1
  have hml := X.2.2.1
  have hown := X.2.2.2.1
  have hts := X.2.2.2.2.1
  have hF := X.2.2.2.2.2.2.2.2.1
  rewrite [fX5_may] at h
  refine lv_iconst (v := 1) hx hb dX5_may_0 (by decide) ?_
  exact r_zret X (Or.inr rfl) hP hS dX5_may_1 h

def fX5_gains (a1 : Int32) (a2 : Int32) (m : Mm) : Option (Int32 × Mm) := bd (fX9_gains 3 a1 a2 m) fun r_1 m_2 => (if (a2 - a2 / 2 * 2) = 0 then some ((r_1 + 3), m_2) else some ((r_1 + 0), m_2))
set_option maxHeartbeats 4000000 in
set_option maxRecDepth 100000 in
theorem tX5_gains {l : Launch} {D : va_G} {cA : Nat → ClassId} {A : Nat → Nat} (hI : InjA cN A) {a1 : Int32} {a2 : Int32} {m m' : Mm} {r : Int32} (h : fX5_gains a1 a2 m = some (r, m')) : Met0 l yX5_gains cX5_gains 3 (some .int) { frames := 2, cells := 0, slots := 0, locals := 44 } cLay cN D cA A [.ref (A (kp 3)), .int a1, .int a2] m (some (.int r)) m' := by
  refine met0_of (by decide) (Nat.le_of_ble_eq_true rfl) hI ?_
  intro p e s m0 below meth c ls X hinit hP hS hl
  generalize ([.ref (A (kp 3)), .int a1, .int a2] : List Value).toArray = args at X ⊢
  have hl : lv_has ls 3 [(0, .ref (A (kp 3))), (1, .int a1), (2, .int a2)] := hl
  have X : CX cLay cN D cA A p s m0 args meth c "BenchTowels$Paired" cX5_gains 3 (some .int) := X
  have hx := X.1
  have hb := X.2.1
  have hml := X.2.2.1
  have hown := X.2.2.2.1
  have hts := X.2.2.2.2.1
  have hF := X.2.2.2.2.2.2.2.2.1
  rewrite [fX5_gains] at h
  refine lv_aload_n hx hb dX5_gains_0 rfl (lv_at hl 0 rfl) ?_
  refine lv_iload_n hx hb dX5_gains_1 rfl (lv_at hl 1 rfl) ?_
  refine lv_iload_n hx hb dX5_gains_2 rfl (lv_at hl 2 rfl) ?_
  obtain ⟨r_1, m_2, hc_3, h⟩ := bd_some h
  refine c_SU (rest := []) X hP hS (tX9_gains hI (by decide) hc_3) (lt_k (by decide)) (L_kind (by decide) _) (kc_kind (by decide)) wt_2_214 wt_8_70 wt_1_148 wt_2_215 wt_1_6 wt_2_216 hyS_X9_gains ⟨rfl, rfl⟩ ⟨Nat.le_of_ble_eq_true rfl, Nat.le_of_ble_eq_true rfl⟩ rfl hl.1 rfl (Nat.le_of_ble_eq_true rfl) dX5_gains_3 rfl (fun H locs hP hS => ?_)
  refine lv_iload_n hx hb dX5_gains_6 rfl (lv_at hl 2 rfl) ?_
  refine lv_iconst (v := 2) hx hb dX5_gains_7 (by decide) ?_
  refine lv_irem hx hb dX5_gains_8 (by decide) ?_
  refine lv_if_ne (tgt := 16) hx hb dX5_gains_9 (by decide) (fun c_4 => ?_) (fun c_4 => ?_)
  · have h := ifn c_4 h
    refine lv_iconst (v := 0) hx hb dX5_gains_16 (by decide) ?_
    refine lv_iadd hx hb dX5_gains_17 ?_
    exact r_iret X hP hS dX5_gains_18 h
  · have h := ifp c_4 h
    refine lv_iconst (v := 3) hx hb dX5_gains_12 (by decide) ?_
    refine lv_goto (tgt := 17) hx hb dX5_gains_13 (by decide) ?_
    refine lv_iadd hx hb dX5_gains_17 ?_
    exact r_iret X hP hS dX5_gains_18 h

def fX5_wipes (a2 : Int32) (m : Mm) : Option (Int32 × Mm) := bd (fX3_begins (51 : Int32) m) fun r_1 m_2 => (if r_1 = 0 then some (0, m_2) else bd (fX6_wipes 3 a2 m_2) fun r_5 m_6 => bd (fX9_groans 3 (m_6 52 7) m_6) fun r_8 m_9 => some ((r_5 ^^^ r_8), m_9))
set_option maxHeartbeats 4000000 in
set_option maxRecDepth 100000 in
theorem tX5_wipes {l : Launch} {D : va_G} {cA : Nat → ClassId} {A : Nat → Nat} (hI : InjA cN A) {a2 : Int32} {m m' : Mm} {r : Int32} (h : fX5_wipes a2 m = some (r, m')) : Met0 l yX5_wipes cX5_wipes 3 (some .int) { frames := 6, cells := 0, slots := 0, locals := 131 } cLay cN D cA A [.ref (A (kp 3)), .ref (A 52), .int a2] m (some (.int r)) m' := by
  refine met0_of (by decide) (Nat.le_of_ble_eq_true rfl) hI ?_
  intro p e s m0 below meth c ls X hinit hP hS hl
  generalize ([.ref (A (kp 3)), .ref (A 52), .int a2] : List Value).toArray = args at X ⊢
  have hl : lv_has ls 3 [(0, .ref (A (kp 3))), (1, .ref (A 52)), (2, .int a2)] := hl
  have X : CX cLay cN D cA A p s m0 args meth c "BenchTowels$Paired" cX5_wipes 3 (some .int) := X
  have hx := X.1
  have hb := X.2.1
  have hml := X.2.2.1
  have hown := X.2.2.2.1
  have hts := X.2.2.2.2.1
  have hF := X.2.2.2.2.2.2.2.2.1
  rewrite [fX5_wipes] at h
  refine lv_aload_n hx hb dX5_wipes_0 rfl (lv_at hl 1 rfl) ?_
  refine lv_bipush (v := 51) hx hb dX5_wipes_1 (by decide) ?_
  obtain ⟨r_1, m_2, hc_3, h⟩ := bd_some h
  refine c_V (rest := []) X hP hS (tX3_begins hI  hc_3) (by decide) (L_host _) rfl wt_5_74 wt_5_66 wt_5_67 wt_1_12 wt_5_68 ⟨rfl, hy_X3_begins⟩ ⟨rfl, rfl⟩ ⟨Nat.le_of_ble_eq_true rfl, Nat.le_of_ble_eq_true rfl⟩ rfl hl.1 rfl (Nat.le_of_ble_eq_true rfl) dX5_wipes_3 rfl (fun H locs hP hS => ?_)
  refine lv_if_eq (tgt := 28) hx hb dX5_wipes_6 (by decide) (fun c_4 => ?_) (fun c_4 => ?_)
  · have h := ifp c_4 h
    refine lv_iconst (v := 0) hx hb dX5_wipes_28 (by decide) ?_
    exact r_iret X hP hS dX5_wipes_29 h
  · have h := ifn c_4 h
    refine lv_aload_n hx hb dX5_wipes_9 rfl (lv_at hl 0 rfl) ?_
    refine lv_aload_n hx hb dX5_wipes_10 rfl (lv_at hl 1 rfl) ?_
    refine lv_iload_n hx hb dX5_wipes_11 rfl (lv_at hl 2 rfl) ?_
    obtain ⟨r_5, m_6, hc_7, h⟩ := bd_some h
    refine c_SUU (rest := []) "BenchTowels$Plain" X hP hS (tX6_wipes hI (by decide) hc_7) (lt_k (by decide)) (L_kind (by decide) _) (kc_kind (by decide)) rfl wt_5_132 wt_5_133 wt_1_148 wt_1_141 wt_5_124 wt_1_4 wt_5_141 hyS_X6_wipes ⟨rfl, rfl⟩ ⟨Nat.le_of_ble_eq_true rfl, Nat.le_of_ble_eq_true rfl⟩ rfl hl.1 rfl (Nat.le_of_ble_eq_true rfl) dX5_wipes_12 rfl (fun H locs hP hS => ?_)
    refine lv_aload_n hx hb dX5_wipes_15 rfl (lv_at hl 0 rfl) ?_
    refine lv_aload_n hx hb dX5_wipes_16 rfl (lv_at hl 1 rfl) ?_
    refine lv_aload_n hx hb dX5_wipes_17 rfl (lv_at hl 1 rfl) ?_
    refine r_get kc_3 7 X hP (by decide) (L_host _) (by decide) rfl wt_2_57 dX5_wipes_18 ?_
    obtain ⟨r_8, m_9, hc_10, h⟩ := bd_some h
    refine c_U (rest := [.int r_5]) "BenchTowels$Shared" X hP hS (tX9_groans hI (by decide) hc_10) (lt_k (by decide)) (L_kind (by decide) _) rfl wt_5_135 wt_5_136 wt_5_89 wt_5_138 wt_5_89 wt_1_6 wt_5_90 wt_5_90 hyU_X9_groans ⟨rfl, rfl⟩ ⟨Nat.le_of_ble_eq_true rfl, Nat.le_of_ble_eq_true rfl⟩ rfl hl.1 rfl (Nat.le_of_ble_eq_true rfl) dX5_wipes_21 rfl (fun H locs hP hS => ?_)
    refine lv_ixor hx hb dX5_wipes_24 ?_
    refine lv_goto (tgt := 29) hx hb dX5_wipes_25 (by decide) ?_
    exact r_iret X hP hS dX5_wipes_29 h

def fX2_may (k : Nat) (a1 : Int32) (a2 : Int32) (m : Mm) : Option (Int32 × Mm) := bd (fX6_may k a1 a2 m) fun r_1 m_2 => (if r_1 = 0 then (if a2 ≤ 0 then some (0, m_2) else bd (fX6_isTaken a1 (a2 - 1) m_2) fun r_6 m_7 => (if r_6 = 0 then some (1, m_7) else some (0, m_7))) else some (1, m_2))
set_option maxHeartbeats 4000000 in
set_option maxRecDepth 100000 in
theorem tX2_may {l : Launch} {D : va_G} {cA : Nat → ClassId} {A : Nat → Nat} (hI : InjA cN A) {k : Nat} (hk : k < 6) {a1 : Int32} {a2 : Int32} {m m' : Mm} {r : Int32} (h : fX2_may k a1 a2 m = some (r, m')) : Met0 l yX2_may cX2_may 3 (some .boolean) { frames := 2, cells := 0, slots := 0, locals := 43 } cLay cN D cA A [.ref (A (kp k)), .int a1, .int a2] m (some (.int r)) m' := by
  refine met0_of (by decide) (Nat.le_of_ble_eq_true rfl) hI ?_
  intro p e s m0 below meth c ls X hinit hP hS hl
  generalize ([.ref (A (kp k)), .int a1, .int a2] : List Value).toArray = args at X ⊢
  have hl : lv_has ls 3 [(0, .ref (A (kp k))), (1, .int a1), (2, .int a2)] := hl
  have X : CX cLay cN D cA A p s m0 args meth c "BenchTowels$Held" cX2_may 3 (some .boolean) := X
  have hx := X.1
  have hb := X.2.1
  have hml := X.2.2.1
  have hown := X.2.2.2.1
  have hts := X.2.2.2.2.1
  have hF := X.2.2.2.2.2.2.2.2.1
  rewrite [fX2_may] at h
  refine lv_aload_n hx hb dX2_may_0 rfl (lv_at hl 0 rfl) ?_
  refine lv_iload_n hx hb dX2_may_1 rfl (lv_at hl 1 rfl) ?_
  refine lv_iload_n hx hb dX2_may_2 rfl (lv_at hl 2 rfl) ?_
  obtain ⟨r_1, m_2, hc_3, h⟩ := bd_some h
  refine c_SU (rest := []) X hP hS (tX6_may hI hk hc_3) (lt_k hk) (L_kind hk _) (kc_kind hk) wt_2_179 wt_2_171 wt_1_155 wt_2_169 wt_1_4 wt_2_196 hyS_X6_may ⟨rfl, rfl⟩ ⟨Nat.le_of_ble_eq_true rfl, Nat.le_of_ble_eq_true rfl⟩ rfl hl.1 rfl (Nat.le_of_ble_eq_true rfl) dX2_may_3 rfl (fun H locs hP hS => ?_)
  refine lv_if_ne (tgt := 23) hx hb dX2_may_6 (by decide) (fun c_4 => ?_) (fun c_4 => ?_)
  · have h := ifn c_4 h
    refine lv_iconst (v := 1) hx hb dX2_may_23 (by decide) ?_
    refine lv_goto (tgt := 28) hx hb dX2_may_24 (by decide) ?_
    exact r_zret X (Or.inr rfl) hP hS dX2_may_28 h
  · have h := ifp c_4 h
    refine lv_iload_n hx hb dX2_may_9 rfl (lv_at hl 2 rfl) ?_
    refine lv_if_le (tgt := 27) hx hb dX2_may_10 (by decide) (fun c_5 => ?_) (fun c_5 => ?_)
    · have h := ifp c_5 h
      refine lv_iconst (v := 0) hx hb dX2_may_27 (by decide) ?_
      exact r_zret X (Or.inl rfl) hP hS dX2_may_28 h
    · have h := ifn c_5 h
      refine lv_iload_n hx hb dX2_may_13 rfl (lv_at hl 1 rfl) ?_
      refine lv_iload_n hx hb dX2_may_14 rfl (lv_at hl 2 rfl) ?_
      refine lv_iconst (v := 1) hx hb dX2_may_15 (by decide) ?_
      refine lv_isub hx hb dX2_may_16 ?_
      obtain ⟨r_6, m_7, hc_8, h⟩ := bd_some h
      refine c_SI (rest := []) "BenchTowels$Plain" X hP hS (tX6_isTaken hI  hc_8) rfl wt_2_180 wt_2_181 wt_2_182 wt_1_4 wt_2_183 hy_X6_isTaken ⟨rfl, rfl⟩ ⟨Nat.le_of_ble_eq_true rfl, Nat.le_of_ble_eq_true rfl⟩ rfl hl.1 rfl (Nat.le_of_ble_eq_true rfl) dX2_may_17 rfl (fun H locs hP hS => ?_)
      refine lv_if_ne (tgt := 27) hx hb dX2_may_20 (by decide) (fun c_9 => ?_) (fun c_9 => ?_)
      · have h := ifn c_9 h
        refine lv_iconst (v := 0) hx hb dX2_may_27 (by decide) ?_
        exact r_zret X (Or.inl rfl) hP hS dX2_may_28 h
      · have h := ifp c_9 h
        refine lv_iconst (v := 1) hx hb dX2_may_23 (by decide) ?_
        refine lv_goto (tgt := 28) hx hb dX2_may_24 (by decide) ?_
        exact r_zret X (Or.inr rfl) hP hS dX2_may_28 h

def fX10_may (a1 : Int32) (a2 : Int32) (m : Mm) : Option (Int32 × Mm) := bd (fX6_isTaken a1 a2 m) fun r_1 m_2 => gb r_1 (some (r_1, m_2))
set_option maxHeartbeats 4000000 in
set_option maxRecDepth 100000 in
theorem tX10_may {l : Launch} {D : va_G} {cA : Nat → ClassId} {A : Nat → Nat} (hI : InjA cN A) {a1 : Int32} {a2 : Int32} {m m' : Mm} {r : Int32} (h : fX10_may a1 a2 m = some (r, m')) : Met0 l yX10_may cX10_may 3 (some .boolean) { frames := 1, cells := 0, slots := 0, locals := 21 } cLay cN D cA A [.ref (A (kp 5)), .int a1, .int a2] m (some (.int r)) m' := by
  refine met0_of (by decide) (Nat.le_of_ble_eq_true rfl) hI ?_
  intro p e s m0 below meth c ls X hinit hP hS hl
  generalize ([.ref (A (kp 5)), .int a1, .int a2] : List Value).toArray = args at X ⊢
  have hl : lv_has ls 3 [(0, .ref (A (kp 5))), (1, .int a1), (2, .int a2)] := hl
  have X : CX cLay cN D cA A p s m0 args meth c "BenchTowels$Unasked" cX10_may 3 (some .boolean) := X
  have hx := X.1
  have hb := X.2.1
  have hml := X.2.2.1
  have hown := X.2.2.2.1
  have hts := X.2.2.2.2.1
  have hF := X.2.2.2.2.2.2.2.2.1
  rewrite [fX10_may] at h
  refine lv_iload_n hx hb dX10_may_0 rfl (lv_at hl 1 rfl) ?_
  refine lv_iload_n hx hb dX10_may_1 rfl (lv_at hl 2 rfl) ?_
  obtain ⟨r_1, m_2, hc_3, h⟩ := bd_some h
  refine c_SI (rest := []) "BenchTowels$Plain" X hP hS (tX6_isTaken hI  hc_3) rfl wt_2_194 wt_2_195 wt_2_182 wt_1_4 wt_2_183 hy_X6_isTaken ⟨rfl, rfl⟩ ⟨Nat.le_of_ble_eq_true rfl, Nat.le_of_ble_eq_true rfl⟩ rfl hl.1 rfl (Nat.le_of_ble_eq_true rfl) dX10_may_2 rfl (fun H locs hP hS => ?_)
  obtain ⟨hz_4, h⟩ := gb_some h
  exact r_zret X hz_4 hP hS dX10_may_5 h

def fX10_gains (a1 : Int32) (a2 : Int32) (m : Mm) : Option (Int32 × Mm) := bd (fX6_gains 5 a1 a2 m) fun r_1 m_2 => some ((r_1 * 2), m_2)
set_option maxHeartbeats 4000000 in
set_option maxRecDepth 100000 in
theorem tX10_gains {l : Launch} {D : va_G} {cA : Nat → ClassId} {A : Nat → Nat} (hI : InjA cN A) {a1 : Int32} {a2 : Int32} {m m' : Mm} {r : Int32} (h : fX10_gains a1 a2 m = some (r, m')) : Met0 l yX10_gains cX10_gains 3 (some .int) { frames := 1, cells := 0, slots := 0, locals := 22 } cLay cN D cA A [.ref (A (kp 5)), .int a1, .int a2] m (some (.int r)) m' := by
  refine met0_of (by decide) (Nat.le_of_ble_eq_true rfl) hI ?_
  intro p e s m0 below meth c ls X hinit hP hS hl
  generalize ([.ref (A (kp 5)), .int a1, .int a2] : List Value).toArray = args at X ⊢
  have hl : lv_has ls 3 [(0, .ref (A (kp 5))), (1, .int a1), (2, .int a2)] := hl
  have X : CX cLay cN D cA A p s m0 args meth c "BenchTowels$Unasked" cX10_gains 3 (some .int) := X
  have hx := X.1
  have hb := X.2.1
  have hml := X.2.2.1
  have hown := X.2.2.2.1
  have hts := X.2.2.2.2.1
  have hF := X.2.2.2.2.2.2.2.2.1
  rewrite [fX10_gains] at h
  refine lv_aload_n hx hb dX10_gains_0 rfl (lv_at hl 0 rfl) ?_
  refine lv_iload_n hx hb dX10_gains_1 rfl (lv_at hl 1 rfl) ?_
  refine lv_iload_n hx hb dX10_gains_2 rfl (lv_at hl 2 rfl) ?_
  obtain ⟨r_1, m_2, hc_3, h⟩ := bd_some h
  refine c_SUU (rest := []) "BenchTowels$Plain" X hP hS (tX6_gains hI (by decide) hc_3) (lt_k (by decide)) (L_kind (by decide) _) (kc_kind (by decide)) rfl wt_2_222 wt_2_223 wt_1_162 wt_1_155 wt_2_203 wt_1_4 wt_2_225 hyS_X6_gains ⟨rfl, rfl⟩ ⟨Nat.le_of_ble_eq_true rfl, Nat.le_of_ble_eq_true rfl⟩ rfl hl.1 rfl (Nat.le_of_ble_eq_true rfl) dX10_gains_3 rfl (fun H locs hP hS => ?_)
  refine lv_iconst (v := 2) hx hb dX10_gains_6 (by decide) ?_
  refine lv_imul hx hb dX10_gains_7 ?_
  exact r_iret X hP hS dX10_gains_8 h

def fX10_tires  (m : Mm) : Option (Int32 × Mm) := bd (fX6_tires 5 m) fun r_1 m_2 => some ((r_1 + 1), m_2)
set_option maxHeartbeats 4000000 in
set_option maxRecDepth 100000 in
theorem tX10_tires {l : Launch} {D : va_G} {cA : Nat → ClassId} {A : Nat → Nat} (hI : InjA cN A) {m m' : Mm} {r : Int32} (h : fX10_tires m = some (r, m')) : Met0 l yX10_tires cX10_tires 1 (some .int) { frames := 1, cells := 0, slots := 0, locals := 20 } cLay cN D cA A [.ref (A (kp 5))] m (some (.int r)) m' := by
  refine met0_of (by decide) (Nat.le_of_ble_eq_true rfl) hI ?_
  intro p e s m0 below meth c ls X hinit hP hS hl
  generalize ([.ref (A (kp 5))] : List Value).toArray = args at X ⊢
  have hl : lv_has ls 1 [(0, .ref (A (kp 5)))] := hl
  have X : CX cLay cN D cA A p s m0 args meth c "BenchTowels$Unasked" cX10_tires 1 (some .int) := X
  have hx := X.1
  have hb := X.2.1
  have hml := X.2.2.1
  have hown := X.2.2.2.1
  have hts := X.2.2.2.2.1
  have hF := X.2.2.2.2.2.2.2.2.1
  rewrite [fX10_tires] at h
  refine lv_aload_n hx hb dX10_tires_0 rfl (lv_at hl 0 rfl) ?_
  obtain ⟨r_1, m_2, hc_3, h⟩ := bd_some h
  refine c_SUU (rest := []) "BenchTowels$Plain" X hP hS (tX6_tires hI (by decide) hc_3) (lt_k (by decide)) (L_kind (by decide) _) (kc_kind (by decide)) rfl wt_3_5 wt_3_6 wt_1_162 wt_1_155 wt_2_231 wt_1_4 wt_3_8 hyS_X6_tires ⟨rfl, rfl⟩ ⟨Nat.le_of_ble_eq_true rfl, Nat.le_of_ble_eq_true rfl⟩ rfl hl.1 rfl (Nat.le_of_ble_eq_true rfl) dX10_tires_1 rfl (fun H locs hP hS => ?_)
  refine lv_iconst (v := 1) hx hb dX10_tires_4 (by decide) ?_
  refine lv_iadd hx hb dX10_tires_5 ?_
  exact r_iret X hP hS dX10_tires_6 h

def fX8_copy (i : Nat) (j : Nat) (m : Mm) : Option (Int32 × Mm) := lt (up m (rp i 0) 0 (m (rp j 0) 0)) fun m_1 => lt (up m_1 (rp i 0) 8 (m_1 (rp j 0) 8)) fun m_3 => gc (m_3 (rp i 0) 0) 8 (lt (upA m_3 (rp i 1) (cpy (m_3 (rp j 1)) (m_3 (rp i 1)) (ix (m_3 (rp i 0) 0)))) fun m_6 => gc (m_6 (rp i 0) 0) 8 (lt (upA m_6 (rp i 2) (cpy (m_6 (rp j 2)) (m_6 (rp i 2)) (ix (m_6 (rp i 0) 0)))) fun m_9 => gc (m_9 (rp i 0) 0) 8 (lt (upA m_9 (rp i 3) (cpy (m_9 (rp j 3)) (m_9 (rp i 3)) (ix (m_9 (rp i 0) 0)))) fun m_12 => gc (m_12 (rp i 0) 0) 8 (lt (upA m_12 (rp i 4) (cpy (m_12 (rp j 4)) (m_12 (rp i 4)) (ix (m_12 (rp i 0) 0)))) fun m_15 => gc (m_15 (rp i 0) 8) 200 (lt (upA m_15 (rp i 5) (cpy (m_15 (rp j 5)) (m_15 (rp i 5)) (ix (m_15 (rp i 0) 8)))) fun m_18 => gc (m_18 (rp i 0) 8) 200 (lt (upA m_18 (rp i 6) (cpy (m_18 (rp j 6)) (m_18 (rp i 6)) (ix (m_18 (rp i 0) 8)))) fun m_21 => gc (m_21 (rp i 0) 8) 200 (lt (upA m_21 (rp i 7) (cpy (m_21 (rp j 7)) (m_21 (rp i 7)) (ix (m_21 (rp i 0) 8)))) fun m_24 => some (0, m_24))))))))
set_option maxHeartbeats 4000000 in
set_option maxRecDepth 100000 in
theorem tX8_copy {l : Launch} {D : va_G} {cA : Nat → ClassId} {A : Nat → Nat} (hI : InjA cN A) {i : Nat} (hi : i < 3) {j : Nat} (hj : j < 3) {m m' : Mm} {r : Int32} (h : fX8_copy i j m = some (r, m')) : Met0 l yX8_copy cX8_copy 2 none { frames := 1, cells := 0, slots := 0, locals := 60 } cLay cN D cA A [.ref (A (rp i 0)), .ref (A (rp j 0))] m none m' := by
  refine met0_of (by decide) (Nat.le_of_ble_eq_true rfl) hI ?_
  intro p e s m0 below meth c ls X hinit hP hS hl
  generalize ([.ref (A (rp i 0)), .ref (A (rp j 0))] : List Value).toArray = args at X ⊢
  have hl : lv_has ls 2 [(0, .ref (A (rp i 0))), (1, .ref (A (rp j 0)))] := hl
  have X : CX cLay cN D cA A p s m0 args meth c "BenchTowels$Rules" cX8_copy 2 none := X
  have hx := X.1
  have hb := X.2.1
  have hml := X.2.2.1
  have hown := X.2.2.2.1
  have hts := X.2.2.2.2.1
  have hF := X.2.2.2.2.2.2.2.2.1
  rewrite [fX8_copy] at h
  refine lv_aload_n hx hb dX8_copy_0 rfl (lv_at hl 0 rfl) ?_
  refine lv_aload_n hx hb dX8_copy_1 rfl (lv_at hl 1 rfl) ?_
  refine r_get kc_8 0 X hP (lt_r hj (by decide)) (L_rules hj _) (by decide) rfl wt_1_35 dX8_copy_2 ?_
  obtain ⟨m_1, em_2, h⟩ := lt_some h
  refine r_put kc_8 0 X hP hS (lt_r hi (by decide)) (L_rules hi _) (L_rules hi _) (by decide) wt_1_35 rfl (by decide +kernel) (Nat.le_of_ble_eq_true rfl) dX8_copy_5 em_2 (fun H locs hP hS => ?_)
  refine lv_aload_n hx hb dX8_copy_8 rfl (lv_at hl 0 rfl) ?_
  refine lv_aload_n hx hb dX8_copy_9 rfl (lv_at hl 1 rfl) ?_
  refine r_get kc_8 8 X hP (lt_r hj (by decide)) (L_rules hj _) (by decide) rfl wt_1_44 dX8_copy_10 ?_
  obtain ⟨m_3, em_4, h⟩ := lt_some h
  refine r_put kc_8 8 X hP hS (lt_r hi (by decide)) (L_rules hi _) (L_rules hi _) (by decide) wt_1_44 rfl (by decide +kernel) (Nat.le_of_ble_eq_true rfl) dX8_copy_13 em_4 (fun H locs hP hS => ?_)
  refine lv_aload_n hx hb dX8_copy_16 rfl (lv_at hl 1 rfl) ?_
  refine r_get kc_8 1 X hP (lt_r hj (by decide)) (L_rules hj _) (by decide) rfl wt_1_37 dX8_copy_17 ?_
  refine lv_iconst (v := 0) hx hb dX8_copy_20 (by decide) ?_
  refine lv_aload_n hx hb dX8_copy_21 rfl (lv_at hl 0 rfl) ?_
  refine r_get kc_8 1 X hP (lt_r hi (by decide)) (L_rules hi _) (by decide) rfl wt_1_37 dX8_copy_22 ?_
  refine lv_iconst (v := 0) hx hb dX8_copy_25 (by decide) ?_
  refine lv_aload_n hx hb dX8_copy_26 rfl (lv_at hl 0 rfl) ?_
  refine r_get kc_8 0 X hP (lt_r hi (by decide)) (L_rules hi _) (by decide) rfl wt_1_35 dX8_copy_27 ?_
  obtain ⟨hc_5, h⟩ := gc_some h
  obtain ⟨m_6, em_7, h⟩ := lt_some h
  refine r_copy (rest := []) X hP hS hl.1 (lt_r hj (by decide)) (La_r_1 hj) (lt_r hi (by decide)) (La_r_1 hi) hc_5 (Nat.le_of_ble_eq_true rfl) (Nat.le_of_ble_eq_true rfl) rfl (Nat.le_of_ble_eq_true rfl) (Nat.le_of_ble_eq_true rfl) wt_3_206 dX8_copy_30 em_7 (fun H locs hP hS => ?_)
  refine lv_aload_n hx hb dX8_copy_33 rfl (lv_at hl 1 rfl) ?_
  refine r_get kc_8 2 X hP (lt_r hj (by decide)) (L_rules hj _) (by decide) rfl wt_1_38 dX8_copy_34 ?_
  refine lv_iconst (v := 0) hx hb dX8_copy_37 (by decide) ?_
  refine lv_aload_n hx hb dX8_copy_38 rfl (lv_at hl 0 rfl) ?_
  refine r_get kc_8 2 X hP (lt_r hi (by decide)) (L_rules hi _) (by decide) rfl wt_1_38 dX8_copy_39 ?_
  refine lv_iconst (v := 0) hx hb dX8_copy_42 (by decide) ?_
  refine lv_aload_n hx hb dX8_copy_43 rfl (lv_at hl 0 rfl) ?_
  refine r_get kc_8 0 X hP (lt_r hi (by decide)) (L_rules hi _) (by decide) rfl wt_1_35 dX8_copy_44 ?_
  obtain ⟨hc_8, h⟩ := gc_some h
  obtain ⟨m_9, em_10, h⟩ := lt_some h
  refine r_copy (rest := []) X hP hS hl.1 (lt_r hj (by decide)) (La_r_2 hj) (lt_r hi (by decide)) (La_r_2 hi) hc_8 (Nat.le_of_ble_eq_true rfl) (Nat.le_of_ble_eq_true rfl) rfl (Nat.le_of_ble_eq_true rfl) (Nat.le_of_ble_eq_true rfl) wt_3_206 dX8_copy_47 em_10 (fun H locs hP hS => ?_)
  refine lv_aload_n hx hb dX8_copy_50 rfl (lv_at hl 1 rfl) ?_
  refine r_get kc_8 3 X hP (lt_r hj (by decide)) (L_rules hj _) (by decide) rfl wt_1_39 dX8_copy_51 ?_
  refine lv_iconst (v := 0) hx hb dX8_copy_54 (by decide) ?_
  refine lv_aload_n hx hb dX8_copy_55 rfl (lv_at hl 0 rfl) ?_
  refine r_get kc_8 3 X hP (lt_r hi (by decide)) (L_rules hi _) (by decide) rfl wt_1_39 dX8_copy_56 ?_
  refine lv_iconst (v := 0) hx hb dX8_copy_59 (by decide) ?_
  refine lv_aload_n hx hb dX8_copy_60 rfl (lv_at hl 0 rfl) ?_
  refine r_get kc_8 0 X hP (lt_r hi (by decide)) (L_rules hi _) (by decide) rfl wt_1_35 dX8_copy_61 ?_
  obtain ⟨hc_11, h⟩ := gc_some h
  obtain ⟨m_12, em_13, h⟩ := lt_some h
  refine r_copy (rest := []) X hP hS hl.1 (lt_r hj (by decide)) (La_r_3 hj) (lt_r hi (by decide)) (La_r_3 hi) hc_11 (Nat.le_of_ble_eq_true rfl) (Nat.le_of_ble_eq_true rfl) rfl (Nat.le_of_ble_eq_true rfl) (Nat.le_of_ble_eq_true rfl) wt_3_206 dX8_copy_64 em_13 (fun H locs hP hS => ?_)
  refine lv_aload_n hx hb dX8_copy_67 rfl (lv_at hl 1 rfl) ?_
  refine r_get kc_8 4 X hP (lt_r hj (by decide)) (L_rules hj _) (by decide) rfl wt_1_40 dX8_copy_68 ?_
  refine lv_iconst (v := 0) hx hb dX8_copy_71 (by decide) ?_
  refine lv_aload_n hx hb dX8_copy_72 rfl (lv_at hl 0 rfl) ?_
  refine r_get kc_8 4 X hP (lt_r hi (by decide)) (L_rules hi _) (by decide) rfl wt_1_40 dX8_copy_73 ?_
  refine lv_iconst (v := 0) hx hb dX8_copy_76 (by decide) ?_
  refine lv_aload_n hx hb dX8_copy_77 rfl (lv_at hl 0 rfl) ?_
  refine r_get kc_8 0 X hP (lt_r hi (by decide)) (L_rules hi _) (by decide) rfl wt_1_35 dX8_copy_78 ?_
  obtain ⟨hc_14, h⟩ := gc_some h
  obtain ⟨m_15, em_16, h⟩ := lt_some h
  refine r_copy (rest := []) X hP hS hl.1 (lt_r hj (by decide)) (La_r_4 hj) (lt_r hi (by decide)) (La_r_4 hi) hc_14 (Nat.le_of_ble_eq_true rfl) (Nat.le_of_ble_eq_true rfl) rfl (Nat.le_of_ble_eq_true rfl) (Nat.le_of_ble_eq_true rfl) wt_3_206 dX8_copy_81 em_16 (fun H locs hP hS => ?_)
  refine lv_aload_n hx hb dX8_copy_84 rfl (lv_at hl 1 rfl) ?_
  refine r_get kc_8 5 X hP (lt_r hj (by decide)) (L_rules hj _) (by decide) rfl wt_1_41 dX8_copy_85 ?_
  refine lv_iconst (v := 0) hx hb dX8_copy_88 (by decide) ?_
  refine lv_aload_n hx hb dX8_copy_89 rfl (lv_at hl 0 rfl) ?_
  refine r_get kc_8 5 X hP (lt_r hi (by decide)) (L_rules hi _) (by decide) rfl wt_1_41 dX8_copy_90 ?_
  refine lv_iconst (v := 0) hx hb dX8_copy_93 (by decide) ?_
  refine lv_aload_n hx hb dX8_copy_94 rfl (lv_at hl 0 rfl) ?_
  refine r_get kc_8 8 X hP (lt_r hi (by decide)) (L_rules hi _) (by decide) rfl wt_1_44 dX8_copy_95 ?_
  obtain ⟨hc_17, h⟩ := gc_some h
  obtain ⟨m_18, em_19, h⟩ := lt_some h
  refine r_copy (rest := []) X hP hS hl.1 (lt_r hj (by decide)) (La_r_5 hj) (lt_r hi (by decide)) (La_r_5 hi) hc_17 (Nat.le_of_ble_eq_true rfl) (Nat.le_of_ble_eq_true rfl) rfl (Nat.le_of_ble_eq_true rfl) (Nat.le_of_ble_eq_true rfl) wt_3_206 dX8_copy_98 em_19 (fun H locs hP hS => ?_)
  refine lv_aload_n hx hb dX8_copy_101 rfl (lv_at hl 1 rfl) ?_
  refine r_get kc_8 6 X hP (lt_r hj (by decide)) (L_rules hj _) (by decide) rfl wt_1_42 dX8_copy_102 ?_
  refine lv_iconst (v := 0) hx hb dX8_copy_105 (by decide) ?_
  refine lv_aload_n hx hb dX8_copy_106 rfl (lv_at hl 0 rfl) ?_
  refine r_get kc_8 6 X hP (lt_r hi (by decide)) (L_rules hi _) (by decide) rfl wt_1_42 dX8_copy_107 ?_
  refine lv_iconst (v := 0) hx hb dX8_copy_110 (by decide) ?_
  refine lv_aload_n hx hb dX8_copy_111 rfl (lv_at hl 0 rfl) ?_
  refine r_get kc_8 8 X hP (lt_r hi (by decide)) (L_rules hi _) (by decide) rfl wt_1_44 dX8_copy_112 ?_
  obtain ⟨hc_20, h⟩ := gc_some h
  obtain ⟨m_21, em_22, h⟩ := lt_some h
  refine r_copy (rest := []) X hP hS hl.1 (lt_r hj (by decide)) (La_r_6 hj) (lt_r hi (by decide)) (La_r_6 hi) hc_20 (Nat.le_of_ble_eq_true rfl) (Nat.le_of_ble_eq_true rfl) rfl (Nat.le_of_ble_eq_true rfl) (Nat.le_of_ble_eq_true rfl) wt_3_206 dX8_copy_115 em_22 (fun H locs hP hS => ?_)
  refine lv_aload_n hx hb dX8_copy_118 rfl (lv_at hl 1 rfl) ?_
  refine r_get kc_8 7 X hP (lt_r hj (by decide)) (L_rules hj _) (by decide) rfl wt_1_43 dX8_copy_119 ?_
  refine lv_iconst (v := 0) hx hb dX8_copy_122 (by decide) ?_
  refine lv_aload_n hx hb dX8_copy_123 rfl (lv_at hl 0 rfl) ?_
  refine r_get kc_8 7 X hP (lt_r hi (by decide)) (L_rules hi _) (by decide) rfl wt_1_43 dX8_copy_124 ?_
  refine lv_iconst (v := 0) hx hb dX8_copy_127 (by decide) ?_
  refine lv_aload_n hx hb dX8_copy_128 rfl (lv_at hl 0 rfl) ?_
  refine r_get kc_8 8 X hP (lt_r hi (by decide)) (L_rules hi _) (by decide) rfl wt_1_44 dX8_copy_129 ?_
  obtain ⟨hc_23, h⟩ := gc_some h
  obtain ⟨m_24, em_25, h⟩ := lt_some h
  refine r_copy (rest := []) X hP hS hl.1 (lt_r hj (by decide)) (La_r_7 hj) (lt_r hi (by decide)) (La_r_7 hi) hc_23 (Nat.le_of_ble_eq_true rfl) (Nat.le_of_ble_eq_true rfl) rfl (Nat.le_of_ble_eq_true rfl) (Nat.le_of_ble_eq_true rfl) wt_3_206 dX8_copy_132 em_25 (fun H locs hP hS => ?_)
  exact r_vret X hP hS dX8_copy_135 h

def fX8_compares_57 (i : Nat) (fi : Nat) (x1 : Int32) (x3 : Int32) (s0 : Int32) (m : Mm) : Option (Int32 × Mm) := gx x1 200 ((if (m (rp i 5) (ix x1)) = 316 then (if (s0 : Int32) ≤ x3 then some (0, m) else some (1, m)) else (if (m (rp i 5) (ix x1)) = 318 then (if x3 ≤ s0 then some (0, m) else some (1, m)) else (if x3 = s0 then some (1, m) else some (0, m)))))
set_option maxHeartbeats 4000000 in
set_option maxRecDepth 100000 in
theorem tX8_compares_57 (hI : InjA cN A) {i : Nat} (hi : i < 3) {fi : Nat} (hf9 : fi < 8) {r : Int32} {m' : Mm} (X : CX cLay cN D cA A p s m0 args meth c "BenchTowels$Rules" cX8_compares 5 (some .boolean)) : ∀ (x1 : Int32) (x3 : Int32) (s0 : Int32) (m : Mm) (H : Heap) (locs : List Loc) (ls : Array Slot), fX8_compares_57 i fi x1 x3 s0 m = some (r, m') → va_P D vwCl (wsOf cLay cN cA A m) H → va_S (AW cN A) s.heap H locs → lv_has ls 5 [(0, .ref (A (rp i 0))), (1, .int x1), (3, .int x3)] → W p l e { frames := 0, cells := 0, slots := 0, locals := 0 } s m0 args below meth c H locs 0 0 (ZR below args s cLay cN D cA A (some (.int r)) m') (F0 m0 57 ls [.int s0]) := by
  have hx := X.1
  have hb := X.2.1
  have hml := X.2.2.1
  have hown := X.2.2.2.1
  have hts := X.2.2.2.2.1
  have hF := X.2.2.2.2.2.2.2.2.1
  intro x1 x3 s0 m H locs ls h hP hS hl
  rewrite [fX8_compares_57] at h
  refine lv_istore (lv' := [(4, .int s0), (0, .ref (A (rp i 0))), (1, .int x1), (3, .int x3)]) hx hb dX8_compares_57 hl (by decide) rfl (fun ls hl => ?_)
  refine lv_aload_n hx hb dX8_compares_59 rfl (lv_at hl 1 rfl) ?_
  refine r_get kc_8 5 X hP (lt_r hi (by decide)) (L_rules hi _) (by decide) rfl wt_1_41 dX8_compares_60 ?_
  refine lv_iload_n hx hb dX8_compares_63 rfl (lv_at hl 2 rfl) ?_
  obtain ⟨hin_7, h⟩ := gx_some h
  refine r_iald X hP (lt_r hi (by decide)) ((La_r_5 hi) _) hin_7 rfl dX8_compares_64 ?_
  refine lv_sipush (v := 316) hx hb dX8_compares_65 (by decide) ?_
  refine lv_icmp_ne (tgt := 83) hx hb dX8_compares_68 (by decide) (fun c_8 => ?_) (fun c_8 => ?_)
  · have h := ifn c_8 h
    refine lv_aload_n hx hb dX8_compares_83 rfl (lv_at hl 1 rfl) ?_
    refine r_get kc_8 5 X hP (lt_r hi (by decide)) (L_rules hi _) (by decide) rfl wt_1_41 dX8_compares_84 ?_
    refine lv_iload_n hx hb dX8_compares_87 rfl (lv_at hl 2 rfl) ?_
    refine r_iald X hP (lt_r hi (by decide)) ((La_r_5 hi) _) hin_7 rfl dX8_compares_88 ?_
    refine lv_sipush (v := 318) hx hb dX8_compares_89 (by decide) ?_
    refine lv_icmp_ne (tgt := 109) hx hb dX8_compares_92 (by decide) (fun c_9 => ?_) (fun c_9 => ?_)
    · have h := ifn c_9 h
      refine lv_iload_n hx hb dX8_compares_109 rfl (lv_at hl 3 rfl) ?_
      refine lv_iload hx hb dX8_compares_110 (lv_at hl 0 rfl) ?_
      refine lv_icmp_ne (tgt := 119) hx hb dX8_compares_112 (by decide) (fun c_10 => ?_) (fun c_10 => ?_)
      · have h := ifn c_10 h
        refine lv_iconst (v := 0) hx hb dX8_compares_119 (by decide) ?_
        exact r_zret X (Or.inl rfl) hP hS dX8_compares_120 h
      · have h := ifp c_10 h
        refine lv_iconst (v := 1) hx hb dX8_compares_115 (by decide) ?_
        refine lv_goto (tgt := 120) hx hb dX8_compares_116 (by decide) ?_
        exact r_zret X (Or.inr rfl) hP hS dX8_compares_120 h
    · have h := ifp c_9 h
      refine lv_iload_n hx hb dX8_compares_95 rfl (lv_at hl 3 rfl) ?_
      refine lv_iload hx hb dX8_compares_96 (lv_at hl 0 rfl) ?_
      refine lv_icmp_le (tgt := 105) hx hb dX8_compares_98 (by decide) (fun c_11 => ?_) (fun c_11 => ?_)
      · have h := ifp c_11 h
        refine lv_iconst (v := 0) hx hb dX8_compares_105 (by decide) ?_
        refine lv_goto (tgt := 120) hx hb dX8_compares_106 (by decide) ?_
        exact r_zret X (Or.inl rfl) hP hS dX8_compares_120 h
      · have h := ifn c_11 h
        refine lv_iconst (v := 1) hx hb dX8_compares_101 (by decide) ?_
        refine lv_goto (tgt := 120) hx hb dX8_compares_102 (by decide) ?_
        exact r_zret X (Or.inr rfl) hP hS dX8_compares_120 h
  · have h := ifp c_8 h
    refine lv_iload_n hx hb dX8_compares_71 rfl (lv_at hl 3 rfl) ?_
    refine lv_iload hx hb dX8_compares_72 (lv_at hl 0 rfl) ?_
    refine lv_icmp_ge (tgt := 81) hx hb dX8_compares_74 (by decide) (fun c_12 => ?_) (fun c_12 => ?_)
    · have h := ifp c_12 h
      refine lv_iconst (v := 0) hx hb dX8_compares_81 (by decide) ?_
      exact r_zret X (Or.inl rfl) hP hS dX8_compares_82 h
    · have h := ifn c_12 h
      refine lv_iconst (v := 1) hx hb dX8_compares_77 (by decide) ?_
      refine lv_goto (tgt := 82) hx hb dX8_compares_78 (by decide) ?_
      exact r_zret X (Or.inr rfl) hP hS dX8_compares_82 h

def fX8_compares_28 (i : Nat) (fi : Nat) (x1 : Int32) (s0 : Int32) (m : Mm) : Option (Int32 × Mm) := gx x1 200 ((if (m (rp i 7) (ix x1)) < 0 then gx (((-1) : Int32) - (m (rp i 7) (ix x1))) 5 ((fX8_compares_57 i fi x1 s0 (m (gp fi 11) (ix (((-1) : Int32) - (m (rp i 7) (ix x1))))) m)) else (fX8_compares_57 i fi x1 s0 (m (rp i 7) (ix x1)) m)))
set_option maxHeartbeats 4000000 in
set_option maxRecDepth 100000 in
theorem tX8_compares_28 (hI : InjA cN A) {i : Nat} (hi : i < 3) {fi : Nat} (hf9 : fi < 8) {r : Int32} {m' : Mm} (X : CX cLay cN D cA A p s m0 args meth c "BenchTowels$Rules" cX8_compares 5 (some .boolean)) : ∀ (x1 : Int32) (s0 : Int32) (m : Mm) (H : Heap) (locs : List Loc) (ls : Array Slot), fX8_compares_28 i fi x1 s0 m = some (r, m') → va_P D vwCl (wsOf cLay cN cA A m) H → va_S (AW cN A) s.heap H locs → lv_has ls 5 [(0, .ref (A (rp i 0))), (1, .int x1), (2, .ref (A (gp fi 11)))] → W p l e { frames := 0, cells := 0, slots := 0, locals := 0 } s m0 args below meth c H locs 0 0 (ZR below args s cLay cN D cA A (some (.int r)) m') (F0 m0 28 ls [.int s0]) := by
  have hx := X.1
  have hb := X.2.1
  have hml := X.2.2.1
  have hown := X.2.2.2.1
  have hts := X.2.2.2.2.1
  have hF := X.2.2.2.2.2.2.2.2.1
  intro x1 s0 m H locs ls h hP hS hl
  rewrite [fX8_compares_28] at h
  refine lv_istore_n (lv' := [(3, .int s0), (0, .ref (A (rp i 0))), (1, .int x1), (2, .ref (A (gp fi 11)))]) hx hb dX8_compares_28 rfl hl (by decide) rfl (fun ls hl => ?_)
  refine lv_aload_n hx hb dX8_compares_29 rfl (lv_at hl 1 rfl) ?_
  refine r_get kc_8 7 X hP (lt_r hi (by decide)) (L_rules hi _) (by decide) rfl wt_1_43 dX8_compares_30 ?_
  refine lv_iload_n hx hb dX8_compares_33 rfl (lv_at hl 2 rfl) ?_
  obtain ⟨hin_4, h⟩ := gx_some h
  refine r_iald X hP (lt_r hi (by decide)) ((La_r_7 hi) _) hin_4 rfl dX8_compares_34 ?_
  refine lv_if_lt (tgt := 47) hx hb dX8_compares_35 (by decide) (fun c_5 => ?_) (fun c_5 => ?_)
  · have h := ifp c_5 h
    refine lv_aload_n hx hb dX8_compares_47 rfl (lv_at hl 3 rfl) ?_
    refine lv_iconst (v := (-1)) hx hb dX8_compares_48 (by decide) ?_
    refine lv_aload_n hx hb dX8_compares_49 rfl (lv_at hl 1 rfl) ?_
    refine r_get kc_8 7 X hP (lt_r hi (by decide)) (L_rules hi _) (by decide) rfl wt_1_43 dX8_compares_50 ?_
    refine lv_iload_n hx hb dX8_compares_53 rfl (lv_at hl 2 rfl) ?_
    refine r_iald X hP (lt_r hi (by decide)) ((La_r_7 hi) _) hin_4 rfl dX8_compares_54 ?_
    refine lv_isub hx hb dX8_compares_55 ?_
    obtain ⟨hin_6, h⟩ := gx_some h
    refine r_iald X hP (lt_g hf9 (by decide)) ((La_g_11 hf9) _) hin_6 rfl dX8_compares_56 ?_
    exact tX8_compares_57 hI hi hf9   X x1 s0 (m (gp fi 11) (ix (((-1) : Int32) - (m (rp i 7) (ix x1))))) m _ _ _  h hP hS (lv_sub hl [1, 2, 0] rfl)
  · have h := ifn c_5 h
    refine lv_aload_n hx hb dX8_compares_38 rfl (lv_at hl 1 rfl) ?_
    refine r_get kc_8 7 X hP (lt_r hi (by decide)) (L_rules hi _) (by decide) rfl wt_1_43 dX8_compares_39 ?_
    refine lv_iload_n hx hb dX8_compares_42 rfl (lv_at hl 2 rfl) ?_
    refine r_iald X hP (lt_r hi (by decide)) ((La_r_7 hi) _) hin_4 rfl dX8_compares_43 ?_
    refine lv_goto (tgt := 57) hx hb dX8_compares_44 (by decide) ?_
    exact tX8_compares_57 hI hi hf9   X x1 s0 (m (rp i 7) (ix x1)) m _ _ _  h hP hS (lv_sub hl [1, 2, 0] rfl)

def fX8_compares (i : Nat) (fi : Nat) (a1 : Int32) (m : Mm) : Option (Int32 × Mm) := gx a1 200 ((if (m (rp i 6) (ix a1)) < 0 then gx (((-1) : Int32) - (m (rp i 6) (ix a1))) 5 ((fX8_compares_28 i fi a1 (m (gp fi 11) (ix (((-1) : Int32) - (m (rp i 6) (ix a1))))) m)) else (fX8_compares_28 i fi a1 (m (rp i 6) (ix a1)) m)))
set_option maxHeartbeats 4000000 in
set_option maxRecDepth 100000 in
theorem tX8_compares {l : Launch} {D : va_G} {cA : Nat → ClassId} {A : Nat → Nat} (hI : InjA cN A) {i : Nat} (hi : i < 3) {fi : Nat} (hf9 : fi < 8) {a1 : Int32} {m m' : Mm} {r : Int32} (h : fX8_compares i fi a1 m = some (r, m')) : Met0 l yX8_compares cX8_compares 5 (some .boolean) { frames := 0, cells := 0, slots := 0, locals := 0 } cLay cN D cA A [.ref (A (rp i 0)), .int a1, .ref (A (gp fi 11))] m (some (.int r)) m' := by
  refine met0_of (by decide) (Nat.le_of_ble_eq_true rfl) hI ?_
  intro p e s m0 below meth c ls X hinit hP hS hl
  generalize ([.ref (A (rp i 0)), .int a1, .ref (A (gp fi 11))] : List Value).toArray = args at X ⊢
  have hl : lv_has ls 5 [(0, .ref (A (rp i 0))), (1, .int a1), (2, .ref (A (gp fi 11)))] := hl
  have X : CX cLay cN D cA A p s m0 args meth c "BenchTowels$Rules" cX8_compares 5 (some .boolean) := X
  have hx := X.1
  have hb := X.2.1
  have hml := X.2.2.1
  have hown := X.2.2.2.1
  have hts := X.2.2.2.2.1
  have hF := X.2.2.2.2.2.2.2.2.1
  rewrite [fX8_compares] at h
  refine lv_aload_n hx hb dX8_compares_0 rfl (lv_at hl 0 rfl) ?_
  refine r_get kc_8 6 X hP (lt_r hi (by decide)) (L_rules hi _) (by decide) rfl wt_1_42 dX8_compares_1 ?_
  refine lv_iload_n hx hb dX8_compares_4 rfl (lv_at hl 1 rfl) ?_
  obtain ⟨hin_1, h⟩ := gx_some h
  refine r_iald X hP (lt_r hi (by decide)) ((La_r_6 hi) _) hin_1 rfl dX8_compares_5 ?_
  refine lv_if_lt (tgt := 18) hx hb dX8_compares_6 (by decide) (fun c_2 => ?_) (fun c_2 => ?_)
  · have h := ifp c_2 h
    refine lv_aload_n hx hb dX8_compares_18 rfl (lv_at hl 2 rfl) ?_
    refine lv_iconst (v := (-1)) hx hb dX8_compares_19 (by decide) ?_
    refine lv_aload_n hx hb dX8_compares_20 rfl (lv_at hl 0 rfl) ?_
    refine r_get kc_8 6 X hP (lt_r hi (by decide)) (L_rules hi _) (by decide) rfl wt_1_42 dX8_compares_21 ?_
    refine lv_iload_n hx hb dX8_compares_24 rfl (lv_at hl 1 rfl) ?_
    refine r_iald X hP (lt_r hi (by decide)) ((La_r_6 hi) _) hin_1 rfl dX8_compares_25 ?_
    refine lv_isub hx hb dX8_compares_26 ?_
    obtain ⟨hin_3, h⟩ := gx_some h
    refine r_iald X hP (lt_g hf9 (by decide)) ((La_g_11 hf9) _) hin_3 rfl dX8_compares_27 ?_
    exact tX8_compares_28 hI hi hf9   X a1 (m (gp fi 11) (ix (((-1) : Int32) - (m (rp i 6) (ix a1))))) m _ _ _  h hP hS (lv_sub hl [0, 1, 2] rfl)
  · have h := ifn c_2 h
    refine lv_aload_n hx hb dX8_compares_9 rfl (lv_at hl 0 rfl) ?_
    refine r_get kc_8 6 X hP (lt_r hi (by decide)) (L_rules hi _) (by decide) rfl wt_1_42 dX8_compares_10 ?_
    refine lv_iload_n hx hb dX8_compares_13 rfl (lv_at hl 1 rfl) ?_
    refine r_iald X hP (lt_r hi (by decide)) ((La_r_6 hi) _) hin_1 rfl dX8_compares_14 ?_
    refine lv_goto (tgt := 28) hx hb dX8_compares_15 (by decide) ?_
    exact tX8_compares_28 hI hi hf9   X a1 (m (rp i 6) (ix a1)) m _ _ _  h hP hS (lv_sub hl [0, 1, 2] rfl)

def fX8_holds_109 (K10 : Int32 → Int64 → Int32 → Mm → Option (Int32 × Mm)) (i : Nat) (fi : Nat) (x1 : Int32) (x5 : Int32) (s0 : Int32) (s1 : Int64) (m : Mm) : Option (Int32 × Mm) := lt ((s1 ||| (Int32.toInt64 s0)) : Int64) fun x3_17 => lt ((x5 : Int32) + 1) fun x5_19 => (K10 x1 x3_17 x5_19 m)
set_option maxHeartbeats 4000000 in
set_option maxRecDepth 100000 in
theorem tX8_holds_109 (hI : InjA cN A) {i : Nat} (hi : i < 3) {fi : Nat} (hf9 : fi < 8) {r : Int32} {m' : Mm} {K10 : Int32 → Int64 → Int32 → Mm → Option (Int32 × Mm)} (hK10 : ∀ (x1 : Int32) (x3 : Int64) (x5 : Int32) (m : Mm) (H : Heap) (locs : List Loc) (ls : Array Slot), K10 x1 x3 x5 m = some (r, m') → va_P D vwCl (wsOf cLay cN cA A m) H → va_S (AW cN A) s.heap H locs → lv_has ls 8 [(0, .ref (A (rp i 0))), (1, .int x1), (2, .ref (A (gp fi 11))), (3, .long x3), (5, .int x5)] → W p l e { frames := 1, cells := 0, slots := 0, locals := 24 } s m0 args below meth c H locs 0 0 (ZR below args s cLay cN D cA A (some (.int r)) m') (F0 m0 10 ls [])) (X : CX cLay cN D cA A p s m0 args meth c "BenchTowels$Rules" cX8_holds 8 (some .boolean)) : ∀ (x1 : Int32) (x5 : Int32) (s0 : Int32) (s1 : Int64) (m : Mm) (H : Heap) (locs : List Loc) (ls : Array Slot), fX8_holds_109 K10 i fi x1 x5 s0 s1 m = some (r, m') → va_P D vwCl (wsOf cLay cN cA A m) H → va_S (AW cN A) s.heap H locs → lv_has ls 8 [(0, .ref (A (rp i 0))), (1, .int x1), (2, .ref (A (gp fi 11))), (5, .int x5)] → W p l e { frames := 1, cells := 0, slots := 0, locals := 24 } s m0 args below meth c H locs 0 0 (ZR below args s cLay cN D cA A (some (.int r)) m') (F0 m0 109 ls [.int s0, .long s1]) := by
  have hx := X.1
  have hb := X.2.1
  have hml := X.2.2.1
  have hown := X.2.2.2.1
  have hts := X.2.2.2.2.1
  have hF := X.2.2.2.2.2.2.2.2.1
  intro x1 x5 s0 s1 m H locs ls h hP hS hl
  rewrite [fX8_holds_109] at h
  refine lv_i2l hx hb dX8_holds_109 rfl ?_
  refine lv_lor hx hb dX8_holds_110 ?_
  obtain ⟨x3_17, ex_18, h⟩ := lt_some h
  refine lv_renl ex_18 ?_
  refine lv_lstore_n (lv' := [(3, .long x3_17), (0, .ref (A (rp i 0))), (1, .int x1), (2, .ref (A (gp fi 11))), (5, .int x5)]) hx hb dX8_holds_111 rfl hl (by decide) rfl (fun ls hl => ?_)
  obtain ⟨x5_19, ex_20, h⟩ := lt_some h
  refine lv_iinc (v := x5_19) (lv' := [(5, .int x5_19), (3, .long x3_17), (0, .ref (A (rp i 0))), (1, .int x1), (2, .ref (A (gp fi 11)))]) hx hb dX8_holds_112 hl (k := 4) rfl (by rw [ex_20]; rfl) (by decide) rfl (fun ls hl => ?_)
  refine lv_goto (tgt := 10) hx hb dX8_holds_115 (by decide) ?_
  exact hK10 x1 x3_17 x5_19 m _ _ _  h hP hS (lv_sub hl [2, 3, 4, 1, 0] rfl)

def fX8_holds_10 (i : Nat) (fi : Nat) : Nat → Int32 → Int64 → Int32 → Mm → Option (Int32 × Mm)
  | 0, _, _, _, _ => none
  | n + 1, x1, x3, x5, m => gx x1 8 ((if ((m (rp i 4) (ix x1)) : Int32) ≤ x5 then (if (lg_cmp (x3 &&& 1) 1) = 0 then some (1, m) else some (0, m)) else lt (((Int64.toUInt64 x3) >>> ((Int32.toInt64 1).toUInt64 &&& Int64.toUInt64 63)).toInt64 : Int64) fun x6_7 => gx x5 200 ((if (m (rp i 5) (ix x5)) = 12 then lt ((x3 ^^^ 1) : Int64) fun x3_29 => lt ((x5 : Int32) + 1) fun x5_31 => (fX8_holds_10 i fi n x1 x3_29 x5_31 m) else (if (m (rp i 5) (ix x5)) = 11 then lt ((x6_7 &&& (x3 ||| (-2))) : Int64) fun x3_25 => lt ((x5 : Int32) + 1) fun x5_27 => (fX8_holds_10 i fi n x1 x3_25 x5_27 m) else (if (m (rp i 5) (ix x5)) = 10 then lt ((x6_7 ||| (x3 &&& 1)) : Int64) fun x3_21 => lt ((x5 : Int32) + 1) fun x5_23 => (fX8_holds_10 i fi n x1 x3_21 x5_23 m) else bd (fX8_compares i fi x5 m) fun r_13 m_14 => (if r_13 = 0 then (fX8_holds_109 (fun x1 x3 x5 m => fX8_holds_10 i fi n x1 x3 x5 m) i fi x1 x5 0 (x3 <<< (Int32.toInt64 1 &&& 63)) m_14) else (fX8_holds_109 (fun x1 x3 x5 m => fX8_holds_10 i fi n x1 x3 x5 m) i fi x1 x5 1 (x3 <<< (Int32.toInt64 1 &&& 63)) m_14))))))))
set_option maxHeartbeats 4000000 in
set_option maxRecDepth 100000 in
theorem tX8_holds_10 (hI : InjA cN A) {i : Nat} (hi : i < 3) {fi : Nat} (hf9 : fi < 8) {r : Int32} {m' : Mm} (X : CX cLay cN D cA A p s m0 args meth c "BenchTowels$Rules" cX8_holds 8 (some .boolean)) : ∀ (n : Nat) (x1 : Int32) (x3 : Int64) (x5 : Int32) (m : Mm) (H : Heap) (locs : List Loc) (ls : Array Slot), fX8_holds_10 i fi n x1 x3 x5 m = some (r, m') → va_P D vwCl (wsOf cLay cN cA A m) H → va_S (AW cN A) s.heap H locs → lv_has ls 8 [(0, .ref (A (rp i 0))), (1, .int x1), (2, .ref (A (gp fi 11))), (3, .long x3), (5, .int x5)] → W p l e { frames := 1, cells := 0, slots := 0, locals := 24 } s m0 args below meth c H locs 0 0 (ZR below args s cLay cN D cA A (some (.int r)) m') (F0 m0 10 ls []) := by
  have hx := X.1
  have hb := X.2.1
  have hml := X.2.2.1
  have hown := X.2.2.2.1
  have hts := X.2.2.2.2.1
  have hF := X.2.2.2.2.2.2.2.2.1
  intro n
  induction n with
  | zero =>
    intro x1 x3 x5 m H locs ls h hP hS hl
    exact absurd h (by rewrite [fX8_holds_10]; exact fun q => by cases q)
  | succ n ih =>
    intro x1 x3 x5 m H locs ls h hP hS hl
    rewrite [fX8_holds_10] at h
    refine lv_iload hx hb dX8_holds_10 (lv_at hl 4 rfl) ?_
    refine lv_aload_n hx hb dX8_holds_12 rfl (lv_at hl 0 rfl) ?_
    refine r_get kc_8 4 X hP (lt_r hi (by decide)) (L_rules hi _) (by decide) rfl wt_1_40 dX8_holds_13 ?_
    refine lv_iload_n hx hb dX8_holds_16 rfl (lv_at hl 1 rfl) ?_
    obtain ⟨hin_4, h⟩ := gx_some h
    refine r_iald X hP (lt_r hi (by decide)) ((La_r_4 hi) _) hin_4 rfl dX8_holds_17 ?_
    refine lv_icmp_ge (tgt := 118) hx hb dX8_holds_18 (by decide) (fun c_5 => ?_) (fun c_5 => ?_)
    · have h := ifp c_5 h
      refine lv_lload_n hx hb dX8_holds_118 rfl (lv_at hl 3 rfl) ?_
      refine lv_lconst (v := 1) hx hb dX8_holds_119 (by decide) ?_
      refine lv_land hx hb dX8_holds_120 ?_
      refine lv_lconst (v := 1) hx hb dX8_holds_121 (by decide) ?_
      refine W.lcmp hx hb dX8_holds_122 ?_
      refine lv_if_ne (tgt := 130) hx hb dX8_holds_123 (by decide) (fun c_6 => ?_) (fun c_6 => ?_)
      · have h := ifn c_6 h
        refine lv_iconst (v := 0) hx hb dX8_holds_130 (by decide) ?_
        exact r_zret X (Or.inl rfl) hP hS dX8_holds_131 h
      · have h := ifp c_6 h
        refine lv_iconst (v := 1) hx hb dX8_holds_126 (by decide) ?_
        refine lv_goto (tgt := 131) hx hb dX8_holds_127 (by decide) ?_
        exact r_zret X (Or.inr rfl) hP hS dX8_holds_131 h
    · have h := ifn c_5 h
      refine lv_lload_n hx hb dX8_holds_21 rfl (lv_at hl 3 rfl) ?_
      refine lv_iconst (v := 1) hx hb dX8_holds_22 (by decide) ?_
      refine lv_lushr hx hb dX8_holds_23 rfl ?_
      obtain ⟨x6_7, ex_8, h⟩ := lt_some h
      refine lv_renl ex_8 ?_
      refine lv_lstore (lv' := [(6, .long x6_7), (0, .ref (A (rp i 0))), (1, .int x1), (2, .ref (A (gp fi 11))), (3, .long x3), (5, .int x5)]) hx hb dX8_holds_24 hl (by decide) rfl (fun ls hl => ?_)
      refine lv_aload_n hx hb dX8_holds_26 rfl (lv_at hl 1 rfl) ?_
      refine r_get kc_8 5 X hP (lt_r hi (by decide)) (L_rules hi _) (by decide) rfl wt_1_41 dX8_holds_27 ?_
      refine lv_iload hx hb dX8_holds_30 (lv_at hl 5 rfl) ?_
      obtain ⟨hin_9, h⟩ := gx_some h
      refine r_iald X hP (lt_r hi (by decide)) ((La_r_5 hi) _) hin_9 rfl dX8_holds_32 ?_
      refine lv_bipush (v := 12) hx hb dX8_holds_33 (by decide) ?_
      refine lv_icmp_ne (tgt := 45) hx hb dX8_holds_35 (by decide) (fun c_10 => ?_) (fun c_10 => ?_)
      · have h := ifn c_10 h
        refine lv_aload_n hx hb dX8_holds_45 rfl (lv_at hl 1 rfl) ?_
        refine r_get kc_8 5 X hP (lt_r hi (by decide)) (L_rules hi _) (by decide) rfl wt_1_41 dX8_holds_46 ?_
        refine lv_iload hx hb dX8_holds_49 (lv_at hl 5 rfl) ?_
        refine r_iald X hP (lt_r hi (by decide)) ((La_r_5 hi) _) hin_9 rfl dX8_holds_51 ?_
        refine lv_bipush (v := 11) hx hb dX8_holds_52 (by decide) ?_
        refine lv_icmp_ne (tgt := 69) hx hb dX8_holds_54 (by decide) (fun c_11 => ?_) (fun c_11 => ?_)
        · have h := ifn c_11 h
          refine lv_aload_n hx hb dX8_holds_69 rfl (lv_at hl 1 rfl) ?_
          refine r_get kc_8 5 X hP (lt_r hi (by decide)) (L_rules hi _) (by decide) rfl wt_1_41 dX8_holds_70 ?_
          refine lv_iload hx hb dX8_holds_73 (lv_at hl 5 rfl) ?_
          refine r_iald X hP (lt_r hi (by decide)) ((La_r_5 hi) _) hin_9 rfl dX8_holds_75 ?_
          refine lv_bipush (v := 10) hx hb dX8_holds_76 (by decide) ?_
          refine lv_icmp_ne (tgt := 91) hx hb dX8_holds_78 (by decide) (fun c_12 => ?_) (fun c_12 => ?_)
          · have h := ifn c_12 h
            refine lv_lload_n hx hb dX8_holds_91 rfl (lv_at hl 4 rfl) ?_
            refine lv_iconst (v := 1) hx hb dX8_holds_92 (by decide) ?_
            refine lv_lshl hx hb dX8_holds_93 rfl ?_
            refine lv_aload_n hx hb dX8_holds_94 rfl (lv_at hl 1 rfl) ?_
            refine lv_iload hx hb dX8_holds_95 (lv_at hl 5 rfl) ?_
            refine lv_aload_n hx hb dX8_holds_97 rfl (lv_at hl 3 rfl) ?_
            obtain ⟨r_13, m_14, hc_15, h⟩ := bd_some h
            refine c_V (rest := [.long (x3 <<< (Int32.toInt64 1 &&& 63))]) X hP hS (tX8_compares hI hi hf9 hc_15) (lt_r hi (by decide)) (L_rules hi _) rfl wt_3_24 wt_3_26 ws_1_1 wt_1_2 wt_3_27 ⟨rfl, hy_X8_compares⟩ ⟨rfl, rfl⟩ ⟨Nat.le_of_ble_eq_true rfl, Nat.le_of_ble_eq_true rfl⟩ rfl hl.1 rfl (Nat.le_of_ble_eq_true rfl) dX8_holds_98 rfl (fun H locs hP hS => ?_)
            refine lv_if_eq (tgt := 108) hx hb dX8_holds_101 (by decide) (fun c_16 => ?_) (fun c_16 => ?_)
            · have h := ifp c_16 h
              refine lv_iconst (v := 0) hx hb dX8_holds_108 (by decide) ?_
              exact tX8_holds_109 hI hi hf9  (fun x1 x3 x5 m H locs ls  h hP hS hl => ih x1 x3 x5 m H locs ls  h hP hS hl) X x1 x5 0 (x3 <<< (Int32.toInt64 1 &&& 63)) m_14 _ _ _  h hP hS (lv_sub hl [1, 2, 3, 5] rfl)
            · have h := ifn c_16 h
              refine lv_iconst (v := 1) hx hb dX8_holds_104 (by decide) ?_
              refine lv_goto (tgt := 109) hx hb dX8_holds_105 (by decide) ?_
              exact tX8_holds_109 hI hi hf9  (fun x1 x3 x5 m H locs ls  h hP hS hl => ih x1 x3 x5 m H locs ls  h hP hS hl) X x1 x5 1 (x3 <<< (Int32.toInt64 1 &&& 63)) m_14 _ _ _  h hP hS (lv_sub hl [1, 2, 3, 5] rfl)
          · have h := ifp c_12 h
            refine lv_lload hx hb dX8_holds_81 (lv_at hl 0 rfl) ?_
            refine lv_lload_n hx hb dX8_holds_83 rfl (lv_at hl 4 rfl) ?_
            refine lv_lconst (v := 1) hx hb dX8_holds_84 (by decide) ?_
            refine lv_land hx hb dX8_holds_85 ?_
            refine lv_lor hx hb dX8_holds_86 ?_
            obtain ⟨x3_21, ex_22, h⟩ := lt_some h
            refine lv_renl ex_22 ?_
            refine lv_lstore_n (lv' := [(3, .long x3_21), (6, .long x6_7), (0, .ref (A (rp i 0))), (1, .int x1), (2, .ref (A (gp fi 11))), (5, .int x5)]) hx hb dX8_holds_87 rfl hl (by decide) rfl (fun ls hl => ?_)
            refine lv_goto (tgt := 112) hx hb dX8_holds_88 (by decide) ?_
            obtain ⟨x5_23, ex_24, h⟩ := lt_some h
            refine lv_iinc (v := x5_23) (lv' := [(5, .int x5_23), (3, .long x3_21), (6, .long x6_7), (0, .ref (A (rp i 0))), (1, .int x1), (2, .ref (A (gp fi 11)))]) hx hb dX8_holds_112 hl (k := 5) rfl (by rw [ex_24]; rfl) (by decide) rfl (fun ls hl => ?_)
            refine lv_goto (tgt := 10) hx hb dX8_holds_115 (by decide) ?_
            exact ih x1 x3_21 x5_23 m _ _ _  h hP hS (lv_sub hl [3, 4, 5, 1, 0] rfl)
        · have h := ifp c_11 h
          refine lv_lload hx hb dX8_holds_57 (lv_at hl 0 rfl) ?_
          refine lv_lload_n hx hb dX8_holds_59 rfl (lv_at hl 4 rfl) ?_
          refine lv_ldc2 (v := (-2)) hx hb hown (hts _ wt_3_23) dX8_holds_60 ?_
          refine lv_lor hx hb dX8_holds_63 ?_
          refine lv_land hx hb dX8_holds_64 ?_
          obtain ⟨x3_25, ex_26, h⟩ := lt_some h
          refine lv_renl ex_26 ?_
          refine lv_lstore_n (lv' := [(3, .long x3_25), (6, .long x6_7), (0, .ref (A (rp i 0))), (1, .int x1), (2, .ref (A (gp fi 11))), (5, .int x5)]) hx hb dX8_holds_65 rfl hl (by decide) rfl (fun ls hl => ?_)
          refine lv_goto (tgt := 112) hx hb dX8_holds_66 (by decide) ?_
          obtain ⟨x5_27, ex_28, h⟩ := lt_some h
          refine lv_iinc (v := x5_27) (lv' := [(5, .int x5_27), (3, .long x3_25), (6, .long x6_7), (0, .ref (A (rp i 0))), (1, .int x1), (2, .ref (A (gp fi 11)))]) hx hb dX8_holds_112 hl (k := 5) rfl (by rw [ex_28]; rfl) (by decide) rfl (fun ls hl => ?_)
          refine lv_goto (tgt := 10) hx hb dX8_holds_115 (by decide) ?_
          exact ih x1 x3_25 x5_27 m _ _ _  h hP hS (lv_sub hl [3, 4, 5, 1, 0] rfl)
      · have h := ifp c_10 h
        refine lv_lload_n hx hb dX8_holds_38 rfl (lv_at hl 4 rfl) ?_
        refine lv_lconst (v := 1) hx hb dX8_holds_39 (by decide) ?_
        refine lv_lxor hx hb dX8_holds_40 ?_
        obtain ⟨x3_29, ex_30, h⟩ := lt_some h
        refine lv_renl ex_30 ?_
        refine lv_lstore_n (lv' := [(3, .long x3_29), (6, .long x6_7), (0, .ref (A (rp i 0))), (1, .int x1), (2, .ref (A (gp fi 11))), (5, .int x5)]) hx hb dX8_holds_41 rfl hl (by decide) rfl (fun ls hl => ?_)
        refine lv_goto (tgt := 112) hx hb dX8_holds_42 (by decide) ?_
        obtain ⟨x5_31, ex_32, h⟩ := lt_some h
        refine lv_iinc (v := x5_31) (lv' := [(5, .int x5_31), (3, .long x3_29), (6, .long x6_7), (0, .ref (A (rp i 0))), (1, .int x1), (2, .ref (A (gp fi 11)))]) hx hb dX8_holds_112 hl (k := 5) rfl (by rw [ex_32]; rfl) (by decide) rfl (fun ls hl => ?_)
        refine lv_goto (tgt := 10) hx hb dX8_holds_115 (by decide) ?_
        exact ih x1 x3_29 x5_31 m _ _ _  h hP hS (lv_sub hl [3, 4, 5, 1, 0] rfl)

def fX8_holds (i : Nat) (fi : Nat) (a1 : Int32) (m : Mm) : Option (Int32 × Mm) := gx a1 8 (lt (m (rp i 3) (ix a1)) fun x5_2 => (fX8_holds_10 i fi FL a1 1 x5_2 m))
set_option maxHeartbeats 4000000 in
set_option maxRecDepth 100000 in
theorem tX8_holds {l : Launch} {D : va_G} {cA : Nat → ClassId} {A : Nat → Nat} (hI : InjA cN A) {i : Nat} (hi : i < 3) {fi : Nat} (hf9 : fi < 8) {a1 : Int32} {m m' : Mm} {r : Int32} (h : fX8_holds i fi a1 m = some (r, m')) : Met0 l yX8_holds cX8_holds 8 (some .boolean) { frames := 1, cells := 0, slots := 0, locals := 24 } cLay cN D cA A [.ref (A (rp i 0)), .int a1, .ref (A (gp fi 11))] m (some (.int r)) m' := by
  refine met0_of (by decide) (Nat.le_of_ble_eq_true rfl) hI ?_
  intro p e s m0 below meth c ls X hinit hP hS hl
  generalize ([.ref (A (rp i 0)), .int a1, .ref (A (gp fi 11))] : List Value).toArray = args at X ⊢
  have hl : lv_has ls 8 [(0, .ref (A (rp i 0))), (1, .int a1), (2, .ref (A (gp fi 11)))] := hl
  have X : CX cLay cN D cA A p s m0 args meth c "BenchTowels$Rules" cX8_holds 8 (some .boolean) := X
  have hx := X.1
  have hb := X.2.1
  have hml := X.2.2.1
  have hown := X.2.2.2.1
  have hts := X.2.2.2.2.1
  have hF := X.2.2.2.2.2.2.2.2.1
  rewrite [fX8_holds] at h
  refine lv_lconst (v := 1) hx hb dX8_holds_0 (by decide) ?_
  refine lv_lstore_n (lv' := [(3, .long 1), (0, .ref (A (rp i 0))), (1, .int a1), (2, .ref (A (gp fi 11)))]) hx hb dX8_holds_1 rfl hl (by decide) rfl (fun ls hl => ?_)
  refine lv_aload_n hx hb dX8_holds_2 rfl (lv_at hl 1 rfl) ?_
  refine r_get kc_8 3 X hP (lt_r hi (by decide)) (L_rules hi _) (by decide) rfl wt_1_39 dX8_holds_3 ?_
  refine lv_iload_n hx hb dX8_holds_6 rfl (lv_at hl 2 rfl) ?_
  obtain ⟨hin_1, h⟩ := gx_some h
  refine r_iald X hP (lt_r hi (by decide)) ((La_r_3 hi) _) hin_1 rfl dX8_holds_7 ?_
  obtain ⟨x5_2, ex_3, h⟩ := lt_some h
  refine lv_ren ex_3 ?_
  refine lv_istore (lv' := [(5, .int x5_2), (3, .long 1), (0, .ref (A (rp i 0))), (1, .int a1), (2, .ref (A (gp fi 11)))]) hx hb dX8_holds_8 hl (by decide) rfl (fun ls hl => ?_)
  exact tX8_holds_10 hI hi hf9   X FL a1 1 x5_2 m _ _ _  h hP hS (lv_sub hl [2, 3, 4, 1, 0] rfl)

def fX8_tell_2 (i : Nat) (fi : Nat) : Nat → Int32 → Int32 → Mm → Option (Int32 × Mm)
  | 0, _, _, _ => none
  | n + 1, x1, x3, m => (if ((m (rp i 0) 0) : Int32) ≤ x3 then some (0, m) else gx x1 6 (gx x3 8 ((if (((sIS (ix x1)) >>> ((m (rp i 1) (ix x3)) &&& 31)) &&& 1) = 1 then bd (fX8_holds i fi x3 m) fun r_7 m_8 => (if r_7 = 0 then lt ((x3 : Int32) + 1) fun x3_11 => (fX8_tell_2 i fi n x1 x3_11 m_8) else some ((m_8 (rp i 2) (ix x3)), m_8)) else lt ((x3 : Int32) + 1) fun x3_5 => (fX8_tell_2 i fi n x1 x3_5 m)))))
set_option maxHeartbeats 4000000 in
set_option maxRecDepth 100000 in
theorem tX8_tell_2 (hI : InjA cN A) {i : Nat} (hi : i < 3) {fi : Nat} (hf9 : fi < 8) {r : Int32} {m' : Mm} (X : CX cLay cN D cA A p s m0 args meth c "BenchTowels$Rules" cX8_tell 4 (some .int)) : ∀ (n : Nat) (x1 : Int32) (x3 : Int32) (m : Mm) (H : Heap) (locs : List Loc) (ls : Array Slot), fX8_tell_2 i fi n x1 x3 m = some (r, m') → va_P D vwCl (wsOf cLay cN cA A m) H → va_S (AW cN A) s.heap H locs → lv_has ls 4 [(0, .ref (A (rp i 0))), (1, .int x1), (2, .ref (A (gp fi 11))), (3, .int x3)] → W p l e { frames := 2, cells := 0, slots := 0, locals := 51 } s m0 args below meth c H locs 0 0 (ZR below args s cLay cN D cA A (some (.int r)) m') (F0 m0 2 ls []) := by
  have hx := X.1
  have hb := X.2.1
  have hml := X.2.2.1
  have hown := X.2.2.2.1
  have hts := X.2.2.2.2.1
  have hF := X.2.2.2.2.2.2.2.2.1
  intro n
  induction n with
  | zero =>
    intro x1 x3 m H locs ls h hP hS hl
    exact absurd h (by rewrite [fX8_tell_2]; exact fun q => by cases q)
  | succ n ih =>
    intro x1 x3 m H locs ls h hP hS hl
    rewrite [fX8_tell_2] at h
    refine lv_iload_n hx hb dX8_tell_2 rfl (lv_at hl 3 rfl) ?_
    refine lv_aload_n hx hb dX8_tell_3 rfl (lv_at hl 0 rfl) ?_
    refine r_get kc_8 0 X hP (lt_r hi (by decide)) (L_rules hi _) (by decide) rfl wt_1_35 dX8_tell_4 ?_
    refine lv_icmp_ge (tgt := 50) hx hb dX8_tell_7 (by decide) (fun c_1 => ?_) (fun c_1 => ?_)
    · have h := ifp c_1 h
      refine lv_iconst (v := 0) hx hb dX8_tell_50 (by decide) ?_
      exact r_iret X hP hS dX8_tell_51 h
    · have h := ifn c_1 h
      refine va_getsN hx hb hF.2.2.2.1.1 hS hown (va_Nw.use rfl hF.2.2.2.2.1.1) (fun _ q => q) dX8_tell_10 ?_
      refine lv_iload_n hx hb dX8_tell_13 rfl (lv_at hl 1 rfl) ?_
      obtain ⟨hin_2, h⟩ := gx_some h
      refine va_ti hx hb hF.2.2.2.1.2 hS hin_2 rfl dX8_tell_14 ?_
      refine lv_aload_n hx hb dX8_tell_15 rfl (lv_at hl 0 rfl) ?_
      refine r_get kc_8 1 X hP (lt_r hi (by decide)) (L_rules hi _) (by decide) rfl wt_1_37 dX8_tell_16 ?_
      refine lv_iload_n hx hb dX8_tell_19 rfl (lv_at hl 3 rfl) ?_
      obtain ⟨hin_3, h⟩ := gx_some h
      refine r_iald X hP (lt_r hi (by decide)) ((La_r_1 hi) _) hin_3 rfl dX8_tell_20 ?_
      refine lv_ishr hx hb dX8_tell_21 ?_
      refine lv_iconst (v := 1) hx hb dX8_tell_22 (by decide) ?_
      refine lv_iand hx hb dX8_tell_23 ?_
      refine lv_iconst (v := 1) hx hb dX8_tell_24 (by decide) ?_
      refine lv_icmp_ne (tgt := 44) hx hb dX8_tell_25 (by decide) (fun c_4 => ?_) (fun c_4 => ?_)
      · have h := ifn c_4 h
        obtain ⟨x3_5, ex_6, h⟩ := lt_some h
        refine lv_iinc (v := x3_5) (lv' := [(3, .int x3_5), (0, .ref (A (rp i 0))), (1, .int x1), (2, .ref (A (gp fi 11)))]) hx hb dX8_tell_44 hl (k := 3) rfl (by rw [ex_6]; rfl) (by decide) rfl (fun ls hl => ?_)
        refine lv_goto (tgt := 2) hx hb dX8_tell_47 (by decide) ?_
        exact ih x1 x3_5 m _ _ _  h hP hS (lv_sub hl [1, 2, 3, 0] rfl)
      · have h := ifp c_4 h
        refine lv_aload_n hx hb dX8_tell_28 rfl (lv_at hl 0 rfl) ?_
        refine lv_iload_n hx hb dX8_tell_29 rfl (lv_at hl 3 rfl) ?_
        refine lv_aload_n hx hb dX8_tell_30 rfl (lv_at hl 2 rfl) ?_
        obtain ⟨r_7, m_8, hc_9, h⟩ := bd_some h
        refine c_V (rest := []) X hP hS (tX8_holds hI hi hf9 hc_9) (lt_r hi (by decide)) (L_rules hi _) rfl wt_3_19 wt_3_21 ws_1_0 wt_1_2 wt_3_22 ⟨rfl, hy_X8_holds⟩ ⟨rfl, rfl⟩ ⟨Nat.le_of_ble_eq_true rfl, Nat.le_of_ble_eq_true rfl⟩ rfl hl.1 rfl (Nat.le_of_ble_eq_true rfl) dX8_tell_31 rfl (fun H locs hP hS => ?_)
        refine lv_if_eq (tgt := 44) hx hb dX8_tell_34 (by decide) (fun c_10 => ?_) (fun c_10 => ?_)
        · have h := ifp c_10 h
          obtain ⟨x3_11, ex_12, h⟩ := lt_some h
          refine lv_iinc (v := x3_11) (lv' := [(3, .int x3_11), (0, .ref (A (rp i 0))), (1, .int x1), (2, .ref (A (gp fi 11)))]) hx hb dX8_tell_44 hl (k := 3) rfl (by rw [ex_12]; rfl) (by decide) rfl (fun ls hl => ?_)
          refine lv_goto (tgt := 2) hx hb dX8_tell_47 (by decide) ?_
          exact ih x1 x3_11 m_8 _ _ _  h hP hS (lv_sub hl [1, 2, 3, 0] rfl)
        · have h := ifn c_10 h
          refine lv_aload_n hx hb dX8_tell_37 rfl (lv_at hl 0 rfl) ?_
          refine r_get kc_8 2 X hP (lt_r hi (by decide)) (L_rules hi _) (by decide) rfl wt_1_38 dX8_tell_38 ?_
          refine lv_iload_n hx hb dX8_tell_41 rfl (lv_at hl 3 rfl) ?_
          refine r_iald X hP (lt_r hi (by decide)) ((La_r_2 hi) _) hin_3 rfl dX8_tell_42 ?_
          exact r_iret X hP hS dX8_tell_43 h

def fX8_tell (i : Nat) (fi : Nat) (a1 : Int32) (m : Mm) : Option (Int32 × Mm) := (fX8_tell_2 i fi FL a1 0 m)
set_option maxHeartbeats 4000000 in
set_option maxRecDepth 100000 in
theorem tX8_tell {l : Launch} {D : va_G} {cA : Nat → ClassId} {A : Nat → Nat} (hI : InjA cN A) {i : Nat} (hi : i < 3) {fi : Nat} (hf9 : fi < 8) {a1 : Int32} {m m' : Mm} {r : Int32} (h : fX8_tell i fi a1 m = some (r, m')) : Met0 l yX8_tell cX8_tell 4 (some .int) { frames := 2, cells := 0, slots := 0, locals := 51 } cLay cN D cA A [.ref (A (rp i 0)), .int a1, .ref (A (gp fi 11))] m (some (.int r)) m' := by
  refine met0_of (by decide) (Nat.le_of_ble_eq_true rfl) hI ?_
  intro p e s m0 below meth c ls X hinit hP hS hl
  generalize ([.ref (A (rp i 0)), .int a1, .ref (A (gp fi 11))] : List Value).toArray = args at X ⊢
  have hl : lv_has ls 4 [(0, .ref (A (rp i 0))), (1, .int a1), (2, .ref (A (gp fi 11)))] := hl
  have X : CX cLay cN D cA A p s m0 args meth c "BenchTowels$Rules" cX8_tell 4 (some .int) := X
  have hx := X.1
  have hb := X.2.1
  have hml := X.2.2.1
  have hown := X.2.2.2.1
  have hts := X.2.2.2.2.1
  have hF := X.2.2.2.2.2.2.2.2.1
  rewrite [fX8_tell] at h
  refine lv_iconst (v := 0) hx hb dX8_tell_0 (by decide) ?_
  refine lv_istore_n (lv' := [(3, .int 0), (0, .ref (A (rp i 0))), (1, .int a1), (2, .ref (A (gp fi 11)))]) hx hb dX8_tell_1 rfl hl (by decide) rfl (fun ls hl => ?_)
  exact tX8_tell_2 hI hi hf9   X FL a1 0 m _ _ _  h hP hS (lv_sub hl [1, 2, 3, 0] rfl)

def fX8_isLetter (a1 : Int32) (m : Mm) : Option (Int32 × Mm) := (if a1 < 97 then some (0, m) else (if (122 : Int32) < a1 then some (0, m) else some (1, m)))
set_option maxHeartbeats 4000000 in
set_option maxRecDepth 100000 in
theorem tX8_isLetter {l : Launch} {D : va_G} {cA : Nat → ClassId} {A : Nat → Nat} (hI : InjA cN A) {a1 : Int32} {m m' : Mm} {r : Int32} (h : fX8_isLetter a1 m = some (r, m')) : Met0 l yX8_isLetter cX8_isLetter 1 (some .boolean) { frames := 0, cells := 0, slots := 0, locals := 0 } cLay cN D cA A [.int a1] m (some (.int r)) m' := by
  refine met0_of (by decide) (Nat.le_of_ble_eq_true rfl) hI ?_
  intro p e s m0 below meth c ls X hinit hP hS hl
  generalize ([.int a1] : List Value).toArray = args at X ⊢
  have hl : lv_has ls 1 [(0, .int a1)] := hl
  have X : CX cLay cN D cA A p s m0 args meth c "BenchTowels$Rules" cX8_isLetter 1 (some .boolean) := X
  have hx := X.1
  have hb := X.2.1
  have hml := X.2.2.1
  have hown := X.2.2.2.1
  have hts := X.2.2.2.2.1
  have hF := X.2.2.2.2.2.2.2.2.1
  rewrite [fX8_isLetter] at h
  refine lv_iload_n hx hb dX8_isLetter_0 rfl (lv_at hl 0 rfl) ?_
  refine lv_bipush (v := 97) hx hb dX8_isLetter_1 (by decide) ?_
  refine lv_icmp_lt (tgt := 16) hx hb dX8_isLetter_3 (by decide) (fun c_1 => ?_) (fun c_1 => ?_)
  · have h := ifp c_1 h
    refine lv_iconst (v := 0) hx hb dX8_isLetter_16 (by decide) ?_
    exact r_zret X (Or.inl rfl) hP hS dX8_isLetter_17 h
  · have h := ifn c_1 h
    refine lv_iload_n hx hb dX8_isLetter_6 rfl (lv_at hl 0 rfl) ?_
    refine lv_bipush (v := 122) hx hb dX8_isLetter_7 (by decide) ?_
    refine lv_icmp_gt (tgt := 16) hx hb dX8_isLetter_9 (by decide) (fun c_2 => ?_) (fun c_2 => ?_)
    · have h := ifp c_2 h
      refine lv_iconst (v := 0) hx hb dX8_isLetter_16 (by decide) ?_
      exact r_zret X (Or.inl rfl) hP hS dX8_isLetter_17 h
    · have h := ifn c_2 h
      refine lv_iconst (v := 1) hx hb dX8_isLetter_12 (by decide) ?_
      refine lv_goto (tgt := 17) hx hb dX8_isLetter_13 (by decide) ?_
      exact r_zret X (Or.inr rfl) hP hS dX8_isLetter_17 h

def fX8_isDigit (a1 : Int32) (m : Mm) : Option (Int32 × Mm) := (if a1 < 48 then some (0, m) else (if (57 : Int32) < a1 then some (0, m) else some (1, m)))
set_option maxHeartbeats 4000000 in
set_option maxRecDepth 100000 in
theorem tX8_isDigit {l : Launch} {D : va_G} {cA : Nat → ClassId} {A : Nat → Nat} (hI : InjA cN A) {a1 : Int32} {m m' : Mm} {r : Int32} (h : fX8_isDigit a1 m = some (r, m')) : Met0 l yX8_isDigit cX8_isDigit 1 (some .boolean) { frames := 0, cells := 0, slots := 0, locals := 0 } cLay cN D cA A [.int a1] m (some (.int r)) m' := by
  refine met0_of (by decide) (Nat.le_of_ble_eq_true rfl) hI ?_
  intro p e s m0 below meth c ls X hinit hP hS hl
  generalize ([.int a1] : List Value).toArray = args at X ⊢
  have hl : lv_has ls 1 [(0, .int a1)] := hl
  have X : CX cLay cN D cA A p s m0 args meth c "BenchTowels$Rules" cX8_isDigit 1 (some .boolean) := X
  have hx := X.1
  have hb := X.2.1
  have hml := X.2.2.1
  have hown := X.2.2.2.1
  have hts := X.2.2.2.2.1
  have hF := X.2.2.2.2.2.2.2.2.1
  rewrite [fX8_isDigit] at h
  refine lv_iload_n hx hb dX8_isDigit_0 rfl (lv_at hl 0 rfl) ?_
  refine lv_bipush (v := 48) hx hb dX8_isDigit_1 (by decide) ?_
  refine lv_icmp_lt (tgt := 16) hx hb dX8_isDigit_3 (by decide) (fun c_1 => ?_) (fun c_1 => ?_)
  · have h := ifp c_1 h
    refine lv_iconst (v := 0) hx hb dX8_isDigit_16 (by decide) ?_
    exact r_zret X (Or.inl rfl) hP hS dX8_isDigit_17 h
  · have h := ifn c_1 h
    refine lv_iload_n hx hb dX8_isDigit_6 rfl (lv_at hl 0 rfl) ?_
    refine lv_bipush (v := 57) hx hb dX8_isDigit_7 (by decide) ?_
    refine lv_icmp_gt (tgt := 16) hx hb dX8_isDigit_9 (by decide) (fun c_2 => ?_) (fun c_2 => ?_)
    · have h := ifp c_2 h
      refine lv_iconst (v := 0) hx hb dX8_isDigit_16 (by decide) ?_
      exact r_zret X (Or.inl rfl) hP hS dX8_isDigit_17 h
    · have h := ifn c_2 h
      refine lv_iconst (v := 1) hx hb dX8_isDigit_12 (by decide) ?_
      refine lv_goto (tgt := 17) hx hb dX8_isDigit_13 (by decide) ?_
      exact r_zret X (Or.inr rfl) hP hS dX8_isDigit_17 h

def fX8_beginsAt (i : Nat) (a1 : Int32) (m : Mm) : Option (Int32 × Mm) := gx a1 200 (bd (fX8_isLetter (m 1 (ix a1)) m) fun r_2 m_3 => (if r_2 = 0 then bd (fX8_isDigit (m_3 1 (ix a1)) m_3) fun r_6 m_7 => (if r_6 = 0 then (if (m_7 1 (ix a1)) = 32 then some (0, m_7) else some (1, m_7)) else (if a1 = 0 then some (1, m_7) else gx (a1 - 1) 200 (bd (fX8_isDigit (m_7 1 (ix (a1 - 1))) m_7) fun r_13 m_14 => (if r_13 = 0 then some (1, m_14) else some (0, m_14))))) else (if a1 = 0 then some (1, m_3) else gx (a1 - 1) 200 (bd (fX8_isLetter (m_3 1 (ix (a1 - 1))) m_3) fun r_19 m_20 => (if r_19 = 0 then some (1, m_20) else some (0, m_20))))))
set_option maxHeartbeats 4000000 in
set_option maxRecDepth 100000 in
theorem tX8_beginsAt {l : Launch} {D : va_G} {cA : Nat → ClassId} {A : Nat → Nat} (hI : InjA cN A) {i : Nat} (hi : i < 3) {a1 : Int32} {m m' : Mm} {r : Int32} (h : fX8_beginsAt i a1 m = some (r, m')) : Met0 l yX8_beginsAt cX8_beginsAt 2 (some .boolean) { frames := 1, cells := 0, slots := 0, locals := 20 } cLay cN D cA A [.ref (A (rp i 0)), .int a1] m (some (.int r)) m' := by
  refine met0_of (by decide) (Nat.le_of_ble_eq_true rfl) hI ?_
  intro p e s m0 below meth c ls X hinit hP hS hl
  generalize ([.ref (A (rp i 0)), .int a1] : List Value).toArray = args at X ⊢
  have hl : lv_has ls 2 [(0, .ref (A (rp i 0))), (1, .int a1)] := hl
  have X : CX cLay cN D cA A p s m0 args meth c "BenchTowels$Rules" cX8_beginsAt 2 (some .boolean) := X
  have hx := X.1
  have hb := X.2.1
  have hml := X.2.2.1
  have hown := X.2.2.2.1
  have hts := X.2.2.2.2.1
  have hF := X.2.2.2.2.2.2.2.2.1
  rewrite [fX8_beginsAt] at h
  refine lv_aload_n hx hb dX8_beginsAt_0 rfl (lv_at hl 0 rfl) ?_
  refine r_get kc_8 9 X hP (lt_r hi (by decide)) (L_rules hi _) (by decide) rfl wt_1_45 dX8_beginsAt_1 ?_
  refine lv_iload_n hx hb dX8_beginsAt_4 rfl (lv_at hl 1 rfl) ?_
  obtain ⟨hin_1, h⟩ := gx_some h
  refine r_bald X hP (by decide) (La_1 _) hin_1 rfl dX8_beginsAt_5 ?_
  obtain ⟨r_2, m_3, hc_4, h⟩ := bd_some h
  refine c_S (rest := []) X hP hS (tX8_isLetter hI  hc_4) wt_3_101 wt_3_102 wt_1_2 wt_3_103 hy_X8_isLetter ⟨rfl, rfl⟩ ⟨Nat.le_of_ble_eq_true rfl, Nat.le_of_ble_eq_true rfl⟩ rfl hl.1 rfl (Nat.le_of_ble_eq_true rfl) dX8_beginsAt_6 rfl (fun H locs hP hS => ?_)
  refine lv_if_eq (tgt := 36) hx hb dX8_beginsAt_9 (by decide) (fun c_5 => ?_) (fun c_5 => ?_)
  · have h := ifp c_5 h
    refine lv_aload_n hx hb dX8_beginsAt_36 rfl (lv_at hl 0 rfl) ?_
    refine r_get kc_8 9 X hP (lt_r hi (by decide)) (L_rules hi _) (by decide) rfl wt_1_45 dX8_beginsAt_37 ?_
    refine lv_iload_n hx hb dX8_beginsAt_40 rfl (lv_at hl 1 rfl) ?_
    refine r_bald X hP (by decide) (La_1 _) hin_1 rfl dX8_beginsAt_41 ?_
    obtain ⟨r_6, m_7, hc_8, h⟩ := bd_some h
    refine c_S (rest := []) X hP hS (tX8_isDigit hI  hc_8) wt_3_104 wt_3_105 wt_1_2 wt_3_106 hy_X8_isDigit ⟨rfl, rfl⟩ ⟨Nat.le_of_ble_eq_true rfl, Nat.le_of_ble_eq_true rfl⟩ rfl hl.1 rfl (Nat.le_of_ble_eq_true rfl) dX8_beginsAt_42 rfl (fun H locs hP hS => ?_)
    refine lv_if_eq (tgt := 72) hx hb dX8_beginsAt_45 (by decide) (fun c_9 => ?_) (fun c_9 => ?_)
    · have h := ifp c_9 h
      refine lv_aload_n hx hb dX8_beginsAt_72 rfl (lv_at hl 0 rfl) ?_
      refine r_get kc_8 9 X hP (lt_r hi (by decide)) (L_rules hi _) (by decide) rfl wt_1_45 dX8_beginsAt_73 ?_
      refine lv_iload_n hx hb dX8_beginsAt_76 rfl (lv_at hl 1 rfl) ?_
      refine r_bald X hP (by decide) (La_1 _) hin_1 rfl dX8_beginsAt_77 ?_
      refine lv_bipush (v := 32) hx hb dX8_beginsAt_78 (by decide) ?_
      refine lv_icmp_eq (tgt := 87) hx hb dX8_beginsAt_80 (by decide) (fun c_10 => ?_) (fun c_10 => ?_)
      · have h := ifp c_10 h
        refine lv_iconst (v := 0) hx hb dX8_beginsAt_87 (by decide) ?_
        exact r_zret X (Or.inl rfl) hP hS dX8_beginsAt_88 h
      · have h := ifn c_10 h
        refine lv_iconst (v := 1) hx hb dX8_beginsAt_83 (by decide) ?_
        refine lv_goto (tgt := 88) hx hb dX8_beginsAt_84 (by decide) ?_
        exact r_zret X (Or.inr rfl) hP hS dX8_beginsAt_88 h
    · have h := ifn c_9 h
      refine lv_iload_n hx hb dX8_beginsAt_48 rfl (lv_at hl 1 rfl) ?_
      refine lv_if_eq (tgt := 66) hx hb dX8_beginsAt_49 (by decide) (fun c_11 => ?_) (fun c_11 => ?_)
      · have h := ifp c_11 h
        refine lv_iconst (v := 1) hx hb dX8_beginsAt_66 (by decide) ?_
        refine lv_goto (tgt := 71) hx hb dX8_beginsAt_67 (by decide) ?_
        exact r_zret X (Or.inr rfl) hP hS dX8_beginsAt_71 h
      · have h := ifn c_11 h
        refine lv_aload_n hx hb dX8_beginsAt_52 rfl (lv_at hl 0 rfl) ?_
        refine r_get kc_8 9 X hP (lt_r hi (by decide)) (L_rules hi _) (by decide) rfl wt_1_45 dX8_beginsAt_53 ?_
        refine lv_iload_n hx hb dX8_beginsAt_56 rfl (lv_at hl 1 rfl) ?_
        refine lv_iconst (v := 1) hx hb dX8_beginsAt_57 (by decide) ?_
        refine lv_isub hx hb dX8_beginsAt_58 ?_
        obtain ⟨hin_12, h⟩ := gx_some h
        refine r_bald X hP (by decide) (La_1 _) hin_12 rfl dX8_beginsAt_59 ?_
        obtain ⟨r_13, m_14, hc_15, h⟩ := bd_some h
        refine c_S (rest := []) X hP hS (tX8_isDigit hI  hc_15) wt_3_104 wt_3_105 wt_1_2 wt_3_106 hy_X8_isDigit ⟨rfl, rfl⟩ ⟨Nat.le_of_ble_eq_true rfl, Nat.le_of_ble_eq_true rfl⟩ rfl hl.1 rfl (Nat.le_of_ble_eq_true rfl) dX8_beginsAt_60 rfl (fun H locs hP hS => ?_)
        refine lv_if_ne (tgt := 70) hx hb dX8_beginsAt_63 (by decide) (fun c_16 => ?_) (fun c_16 => ?_)
        · have h := ifn c_16 h
          refine lv_iconst (v := 0) hx hb dX8_beginsAt_70 (by decide) ?_
          exact r_zret X (Or.inl rfl) hP hS dX8_beginsAt_71 h
        · have h := ifp c_16 h
          refine lv_iconst (v := 1) hx hb dX8_beginsAt_66 (by decide) ?_
          refine lv_goto (tgt := 71) hx hb dX8_beginsAt_67 (by decide) ?_
          exact r_zret X (Or.inr rfl) hP hS dX8_beginsAt_71 h
  · have h := ifn c_5 h
    refine lv_iload_n hx hb dX8_beginsAt_12 rfl (lv_at hl 1 rfl) ?_
    refine lv_if_eq (tgt := 30) hx hb dX8_beginsAt_13 (by decide) (fun c_17 => ?_) (fun c_17 => ?_)
    · have h := ifp c_17 h
      refine lv_iconst (v := 1) hx hb dX8_beginsAt_30 (by decide) ?_
      refine lv_goto (tgt := 35) hx hb dX8_beginsAt_31 (by decide) ?_
      exact r_zret X (Or.inr rfl) hP hS dX8_beginsAt_35 h
    · have h := ifn c_17 h
      refine lv_aload_n hx hb dX8_beginsAt_16 rfl (lv_at hl 0 rfl) ?_
      refine r_get kc_8 9 X hP (lt_r hi (by decide)) (L_rules hi _) (by decide) rfl wt_1_45 dX8_beginsAt_17 ?_
      refine lv_iload_n hx hb dX8_beginsAt_20 rfl (lv_at hl 1 rfl) ?_
      refine lv_iconst (v := 1) hx hb dX8_beginsAt_21 (by decide) ?_
      refine lv_isub hx hb dX8_beginsAt_22 ?_
      obtain ⟨hin_18, h⟩ := gx_some h
      refine r_bald X hP (by decide) (La_1 _) hin_18 rfl dX8_beginsAt_23 ?_
      obtain ⟨r_19, m_20, hc_21, h⟩ := bd_some h
      refine c_S (rest := []) X hP hS (tX8_isLetter hI  hc_21) wt_3_101 wt_3_102 wt_1_2 wt_3_103 hy_X8_isLetter ⟨rfl, rfl⟩ ⟨Nat.le_of_ble_eq_true rfl, Nat.le_of_ble_eq_true rfl⟩ rfl hl.1 rfl (Nat.le_of_ble_eq_true rfl) dX8_beginsAt_24 rfl (fun H locs hP hS => ?_)
      refine lv_if_ne (tgt := 34) hx hb dX8_beginsAt_27 (by decide) (fun c_22 => ?_) (fun c_22 => ?_)
      · have h := ifn c_22 h
        refine lv_iconst (v := 0) hx hb dX8_beginsAt_34 (by decide) ?_
        exact r_zret X (Or.inl rfl) hP hS dX8_beginsAt_35 h
      · have h := ifp c_22 h
        refine lv_iconst (v := 1) hx hb dX8_beginsAt_30 (by decide) ?_
        refine lv_goto (tgt := 35) hx hb dX8_beginsAt_31 (by decide) ?_
        exact r_zret X (Or.inr rfl) hP hS dX8_beginsAt_35 h

def fX8_numberAt_46 (i : Nat) (x1 : Int32) (x3 : Int32) (x4 : Int32) (m : Mm) : Option (Int32 × Mm) := (if (x4 - x1) ≤ 4 then some (((1000 : Int32) + x3), m) else some ((-2), m))
set_option maxHeartbeats 4000000 in
set_option maxRecDepth 100000 in
theorem tX8_numberAt_46 (hI : InjA cN A) {i : Nat} (hi : i < 3) {r : Int32} {m' : Mm} (X : CX cLay cN D cA A p s m0 args meth c "BenchTowels$Rules" cX8_numberAt 5 (some .int)) : ∀ (x1 : Int32) (x3 : Int32) (x4 : Int32) (m : Mm) (H : Heap) (locs : List Loc) (ls : Array Slot), fX8_numberAt_46 i x1 x3 x4 m = some (r, m') → va_P D vwCl (wsOf cLay cN cA A m) H → va_S (AW cN A) s.heap H locs → lv_has ls 5 [(1, .int x1), (3, .int x3), (4, .int x4)] → W p l e { frames := 1, cells := 0, slots := 0, locals := 20 } s m0 args below meth c H locs 0 0 (ZR below args s cLay cN D cA A (some (.int r)) m') (F0 m0 46 ls []) := by
  have hx := X.1
  have hb := X.2.1
  have hml := X.2.2.1
  have hown := X.2.2.2.1
  have hts := X.2.2.2.2.1
  have hF := X.2.2.2.2.2.2.2.2.1
  intro x1 x3 x4 m H locs ls h hP hS hl
  rewrite [fX8_numberAt_46] at h
  refine lv_iload hx hb dX8_numberAt_46 (lv_at hl 2 rfl) ?_
  refine lv_iload_n hx hb dX8_numberAt_48 rfl (lv_at hl 0 rfl) ?_
  refine lv_isub hx hb dX8_numberAt_49 ?_
  refine lv_iconst (v := 4) hx hb dX8_numberAt_50 (by decide) ?_
  refine lv_icmp_le (tgt := 59) hx hb dX8_numberAt_51 (by decide) (fun c_2 => ?_) (fun c_2 => ?_)
  · have h := ifp c_2 h
    refine lv_sipush (v := 1000) hx hb dX8_numberAt_59 (by decide) ?_
    refine lv_iload_n hx hb dX8_numberAt_62 rfl (lv_at hl 1 rfl) ?_
    refine lv_iadd hx hb dX8_numberAt_63 ?_
    exact r_iret X hP hS dX8_numberAt_64 h
  · have h := ifn c_2 h
    refine lv_bipush (v := (-2)) hx hb dX8_numberAt_54 (by decide) ?_
    refine lv_goto (tgt := 64) hx hb dX8_numberAt_56 (by decide) ?_
    exact r_iret X hP hS dX8_numberAt_64 h

def fX8_numberAt_5 (i : Nat) : Nat → Int32 → Int32 → Int32 → Int32 → Mm → Option (Int32 × Mm)
  | 0, _, _, _, _, _ => none
  | n + 1, x1, x2, x3, x4, m => (if (x2 : Int32) ≤ x4 then fX8_numberAt_46 i x1 x3 x4 m else gx x4 200 (bd (fX8_isDigit (m 1 (ix x4)) m) fun r_4 m_5 => (if r_4 = 0 then fX8_numberAt_46 i x1 x3 x4 m_5 else lt (((x3 * 10) + (m_5 1 (ix x4))) - 48) fun x3_8 => lt ((x4 : Int32) + 1) fun x4_10 => (fX8_numberAt_5 i n x1 x2 x3_8 x4_10 m_5))))
set_option maxHeartbeats 4000000 in
set_option maxRecDepth 100000 in
theorem tX8_numberAt_5 (hI : InjA cN A) {i : Nat} (hi : i < 3) {r : Int32} {m' : Mm} (X : CX cLay cN D cA A p s m0 args meth c "BenchTowels$Rules" cX8_numberAt 5 (some .int)) : ∀ (n : Nat) (x1 : Int32) (x2 : Int32) (x3 : Int32) (x4 : Int32) (m : Mm) (H : Heap) (locs : List Loc) (ls : Array Slot), fX8_numberAt_5 i n x1 x2 x3 x4 m = some (r, m') → va_P D vwCl (wsOf cLay cN cA A m) H → va_S (AW cN A) s.heap H locs → lv_has ls 5 [(0, .ref (A (rp i 0))), (1, .int x1), (2, .int x2), (3, .int x3), (4, .int x4)] → W p l e { frames := 1, cells := 0, slots := 0, locals := 20 } s m0 args below meth c H locs 0 0 (ZR below args s cLay cN D cA A (some (.int r)) m') (F0 m0 5 ls []) := by
  have hx := X.1
  have hb := X.2.1
  have hml := X.2.2.1
  have hown := X.2.2.2.1
  have hts := X.2.2.2.2.1
  have hF := X.2.2.2.2.2.2.2.2.1
  intro n
  induction n with
  | zero =>
    intro x1 x2 x3 x4 m H locs ls h hP hS hl
    exact absurd h (by rewrite [fX8_numberAt_5]; exact fun q => by cases q)
  | succ n ih =>
    intro x1 x2 x3 x4 m H locs ls h hP hS hl
    rewrite [fX8_numberAt_5] at h
    refine lv_iload hx hb dX8_numberAt_5 (lv_at hl 4 rfl) ?_
    refine lv_iload_n hx hb dX8_numberAt_7 rfl (lv_at hl 2 rfl) ?_
    refine lv_icmp_ge (tgt := 46) hx hb dX8_numberAt_8 (by decide) (fun c_1 => ?_) (fun c_1 => ?_)
    · have h := ifp c_1 h
      exact tX8_numberAt_46 hI hi   X x1 x3 x4 m _ _ _  h hP hS (lv_sub hl [1, 3, 4] rfl)
    · have h := ifn c_1 h
      refine lv_aload_n hx hb dX8_numberAt_11 rfl (lv_at hl 0 rfl) ?_
      refine r_get kc_8 9 X hP (lt_r hi (by decide)) (L_rules hi _) (by decide) rfl wt_1_45 dX8_numberAt_12 ?_
      refine lv_iload hx hb dX8_numberAt_15 (lv_at hl 4 rfl) ?_
      obtain ⟨hin_3, h⟩ := gx_some h
      refine r_bald X hP (by decide) (La_1 _) hin_3 rfl dX8_numberAt_17 ?_
      obtain ⟨r_4, m_5, hc_6, h⟩ := bd_some h
      refine c_S (rest := []) X hP hS (tX8_isDigit hI  hc_6) wt_3_104 wt_3_105 wt_1_2 wt_3_106 hy_X8_isDigit ⟨rfl, rfl⟩ ⟨Nat.le_of_ble_eq_true rfl, Nat.le_of_ble_eq_true rfl⟩ rfl hl.1 rfl (Nat.le_of_ble_eq_true rfl) dX8_numberAt_18 rfl (fun H locs hP hS => ?_)
      refine lv_if_eq (tgt := 46) hx hb dX8_numberAt_21 (by decide) (fun c_7 => ?_) (fun c_7 => ?_)
      · have h := ifp c_7 h
        exact tX8_numberAt_46 hI hi   X x1 x3 x4 m_5 _ _ _  h hP hS (lv_sub hl [1, 3, 4] rfl)
      · have h := ifn c_7 h
        refine lv_iload_n hx hb dX8_numberAt_24 rfl (lv_at hl 3 rfl) ?_
        refine lv_bipush (v := 10) hx hb dX8_numberAt_25 (by decide) ?_
        refine lv_imul hx hb dX8_numberAt_27 ?_
        refine lv_aload_n hx hb dX8_numberAt_28 rfl (lv_at hl 0 rfl) ?_
        refine r_get kc_8 9 X hP (lt_r hi (by decide)) (L_rules hi _) (by decide) rfl wt_1_45 dX8_numberAt_29 ?_
        refine lv_iload hx hb dX8_numberAt_32 (lv_at hl 4 rfl) ?_
        refine r_bald X hP (by decide) (La_1 _) hin_3 rfl dX8_numberAt_34 ?_
        refine lv_iadd hx hb dX8_numberAt_35 ?_
        refine lv_bipush (v := 48) hx hb dX8_numberAt_36 (by decide) ?_
        refine lv_isub hx hb dX8_numberAt_38 ?_
        obtain ⟨x3_8, ex_9, h⟩ := lt_some h
        refine lv_ren ex_9 ?_
        refine lv_istore_n (lv' := [(3, .int x3_8), (0, .ref (A (rp i 0))), (1, .int x1), (2, .int x2), (4, .int x4)]) hx hb dX8_numberAt_39 rfl hl (by decide) rfl (fun ls hl => ?_)
        obtain ⟨x4_10, ex_11, h⟩ := lt_some h
        refine lv_iinc (v := x4_10) (lv' := [(4, .int x4_10), (3, .int x3_8), (0, .ref (A (rp i 0))), (1, .int x1), (2, .int x2)]) hx hb dX8_numberAt_40 hl (k := 4) rfl (by rw [ex_11]; rfl) (by decide) rfl (fun ls hl => ?_)
        refine lv_goto (tgt := 5) hx hb dX8_numberAt_43 (by decide) ?_
        exact ih x1 x2 x3_8 x4_10 m_5 _ _ _  h hP hS (lv_sub hl [2, 3, 4, 1, 0] rfl)

def fX8_numberAt (i : Nat) (a1 : Int32) (a2 : Int32) (m : Mm) : Option (Int32 × Mm) := (fX8_numberAt_5 i FL a1 a2 0 a1 m)
set_option maxHeartbeats 4000000 in
set_option maxRecDepth 100000 in
theorem tX8_numberAt {l : Launch} {D : va_G} {cA : Nat → ClassId} {A : Nat → Nat} (hI : InjA cN A) {i : Nat} (hi : i < 3) {a1 : Int32} {a2 : Int32} {m m' : Mm} {r : Int32} (h : fX8_numberAt i a1 a2 m = some (r, m')) : Met0 l yX8_numberAt cX8_numberAt 5 (some .int) { frames := 1, cells := 0, slots := 0, locals := 20 } cLay cN D cA A [.ref (A (rp i 0)), .int a1, .int a2] m (some (.int r)) m' := by
  refine met0_of (by decide) (Nat.le_of_ble_eq_true rfl) hI ?_
  intro p e s m0 below meth c ls X hinit hP hS hl
  generalize ([.ref (A (rp i 0)), .int a1, .int a2] : List Value).toArray = args at X ⊢
  have hl : lv_has ls 5 [(0, .ref (A (rp i 0))), (1, .int a1), (2, .int a2)] := hl
  have X : CX cLay cN D cA A p s m0 args meth c "BenchTowels$Rules" cX8_numberAt 5 (some .int) := X
  have hx := X.1
  have hb := X.2.1
  have hml := X.2.2.1
  have hown := X.2.2.2.1
  have hts := X.2.2.2.2.1
  have hF := X.2.2.2.2.2.2.2.2.1
  rewrite [fX8_numberAt] at h
  refine lv_iconst (v := 0) hx hb dX8_numberAt_0 (by decide) ?_
  refine lv_istore_n (lv' := [(3, .int 0), (0, .ref (A (rp i 0))), (1, .int a1), (2, .int a2)]) hx hb dX8_numberAt_1 rfl hl (by decide) rfl (fun ls hl => ?_)
  refine lv_iload_n hx hb dX8_numberAt_2 rfl (lv_at hl 2 rfl) ?_
  refine lv_istore (lv' := [(4, .int a1), (3, .int 0), (0, .ref (A (rp i 0))), (1, .int a1), (2, .int a2)]) hx hb dX8_numberAt_3 hl (by decide) rfl (fun ls hl => ?_)
  exact tX8_numberAt_5 hI hi   X FL a1 a2 0 a1 m _ _ _  h hP hS (lv_sub hl [2, 3, 4, 1, 0] rfl)

def fX8_isWord_27 (i : Nat) : Nat → Int32 → Int32 → Int32 → Int32 → Mm → Option (Int32 × Mm)
  | 0, _, _, _, _, _ => none
  | n + 1, x1, x2, x3, x4, m => (if (x3 : Int32) ≤ x4 then some (1, m) else gx ((x1 * 8) + x4) 144 (gx (x2 + x4) 200 ((if (sChar (ix ((x1 * 8) + x4))) = (m 1 (ix (x2 + x4))) then lt ((x4 : Int32) + 1) fun x4_8 => (fX8_isWord_27 i n x1 x2 x3 x4_8 m) else some (0, m)))))
set_option maxHeartbeats 4000000 in
set_option maxRecDepth 100000 in
theorem tX8_isWord_27 (hI : InjA cN A) {i : Nat} (hi : i < 3) {r : Int32} {m' : Mm} (X : CX cLay cN D cA A p s m0 args meth c "BenchTowels$Rules" cX8_isWord 5 (some .boolean)) : ∀ (n : Nat) (x1 : Int32) (x2 : Int32) (x3 : Int32) (x4 : Int32) (m : Mm) (H : Heap) (locs : List Loc) (ls : Array Slot), fX8_isWord_27 i n x1 x2 x3 x4 m = some (r, m') → va_P D vwCl (wsOf cLay cN cA A m) H → va_S (AW cN A) s.heap H locs → lv_has ls 5 [(0, .ref (A (rp i 0))), (1, .int x1), (2, .int x2), (3, .int x3), (4, .int x4)] → W p l e { frames := 8, cells := 0, slots := 0, locals := 160 } s m0 args below meth c H locs 0 0 (ZR below args s cLay cN D cA A (some (.int r)) m') (F0 m0 27 ls []) := by
  have hx := X.1
  have hb := X.2.1
  have hml := X.2.2.1
  have hown := X.2.2.2.1
  have hts := X.2.2.2.2.1
  have hF := X.2.2.2.2.2.2.2.2.1
  intro n
  induction n with
  | zero =>
    intro x1 x2 x3 x4 m H locs ls h hP hS hl
    exact absurd h (by rewrite [fX8_isWord_27]; exact fun q => by cases q)
  | succ n ih =>
    intro x1 x2 x3 x4 m H locs ls h hP hS hl
    rewrite [fX8_isWord_27] at h
    refine lv_iload hx hb dX8_isWord_27 (lv_at hl 4 rfl) ?_
    refine lv_iload_n hx hb dX8_isWord_29 rfl (lv_at hl 3 rfl) ?_
    refine lv_icmp_ge (tgt := 65) hx hb dX8_isWord_30 (by decide) (fun c_4 => ?_) (fun c_4 => ?_)
    · have h := ifp c_4 h
      refine lv_iconst (v := 1) hx hb dX8_isWord_65 (by decide) ?_
      exact r_zret X (Or.inr rfl) hP hS dX8_isWord_66 h
    · have h := ifn c_4 h
      refine va_ldcS hx hb hown hF.2.2.2.2.2.1.1 dX8_isWord_33 ?_
      refine lv_iload_n hx hb dX8_isWord_35 rfl (lv_at hl 1 rfl) ?_
      refine lv_bipush (v := 8) hx hb dX8_isWord_36 (by decide) ?_
      refine lv_imul hx hb dX8_isWord_38 ?_
      refine lv_iload hx hb dX8_isWord_39 (lv_at hl 4 rfl) ?_
      refine lv_iadd hx hb dX8_isWord_41 ?_
      obtain ⟨hin_5, h⟩ := gx_some h
      refine r_charAt (rest := []) X hP hS hI hin_5 wt_3_120 ⟨by first | exact Nat.le_of_ble_eq_true rfl | (dsimp only; omega), by first | exact Nat.le_of_ble_eq_true rfl | (dsimp only; omega)⟩ hl.1 (Nat.le_of_ble_eq_true rfl) dX8_isWord_42 (fun H locs hP hS => ?_)
      refine lv_aload_n hx hb dX8_isWord_45 rfl (lv_at hl 0 rfl) ?_
      refine r_get kc_8 9 X hP (lt_r hi (by decide)) (L_rules hi _) (by decide) rfl wt_1_45 dX8_isWord_46 ?_
      refine lv_iload_n hx hb dX8_isWord_49 rfl (lv_at hl 2 rfl) ?_
      refine lv_iload hx hb dX8_isWord_50 (lv_at hl 4 rfl) ?_
      refine lv_iadd hx hb dX8_isWord_52 ?_
      obtain ⟨hin_6, h⟩ := gx_some h
      refine r_bald X hP (by decide) (La_1 _) hin_6 rfl dX8_isWord_53 ?_
      refine lv_icmp_eq (tgt := 59) hx hb dX8_isWord_54 (by decide) (fun c_7 => ?_) (fun c_7 => ?_)
      · have h := ifp c_7 h
        obtain ⟨x4_8, ex_9, h⟩ := lt_some h
        refine lv_iinc (v := x4_8) (lv' := [(4, .int x4_8), (0, .ref (A (rp i 0))), (1, .int x1), (2, .int x2), (3, .int x3)]) hx hb dX8_isWord_59 hl (k := 4) rfl (by rw [ex_9]; rfl) (by decide) rfl (fun ls hl => ?_)
        refine lv_goto (tgt := 27) hx hb dX8_isWord_62 (by decide) ?_
        exact ih x1 x2 x3 x4_8 m _ _ _  h hP hS (lv_sub hl [1, 2, 3, 4, 0] rfl)
      · have h := ifn c_7 h
        refine lv_iconst (v := 0) hx hb dX8_isWord_57 (by decide) ?_
        exact r_zret X (Or.inl rfl) hP hS dX8_isWord_58 h

def fX8_isWord (i : Nat) (a1 : Int32) (a2 : Int32) (a3 : Int32) (m : Mm) : Option (Int32 × Mm) := (if (8 : Int32) ≤ a3 then some (0, m) else gx ((a1 * 8) + a3) 144 ((if (sChar (ix ((a1 * 8) + a3))) = 32 then (fX8_isWord_27 i FL a1 a2 a3 0 m) else some (0, m))))
set_option maxHeartbeats 4000000 in
set_option maxRecDepth 100000 in
theorem tX8_isWord {l : Launch} {D : va_G} {cA : Nat → ClassId} {A : Nat → Nat} (hI : InjA cN A) {i : Nat} (hi : i < 3) {a1 : Int32} {a2 : Int32} {a3 : Int32} {m m' : Mm} {r : Int32} (h : fX8_isWord i a1 a2 a3 m = some (r, m')) : Met0 l yX8_isWord cX8_isWord 5 (some .boolean) { frames := 8, cells := 0, slots := 0, locals := 160 } cLay cN D cA A [.ref (A (rp i 0)), .int a1, .int a2, .int a3] m (some (.int r)) m' := by
  refine met0_of (by decide) (Nat.le_of_ble_eq_true rfl) hI ?_
  intro p e s m0 below meth c ls X hinit hP hS hl
  generalize ([.ref (A (rp i 0)), .int a1, .int a2, .int a3] : List Value).toArray = args at X ⊢
  have hl : lv_has ls 5 [(0, .ref (A (rp i 0))), (1, .int a1), (2, .int a2), (3, .int a3)] := hl
  have X : CX cLay cN D cA A p s m0 args meth c "BenchTowels$Rules" cX8_isWord 5 (some .boolean) := X
  have hx := X.1
  have hb := X.2.1
  have hml := X.2.2.1
  have hown := X.2.2.2.1
  have hts := X.2.2.2.2.1
  have hF := X.2.2.2.2.2.2.2.2.1
  rewrite [fX8_isWord] at h
  refine lv_iload_n hx hb dX8_isWord_0 rfl (lv_at hl 3 rfl) ?_
  refine lv_bipush (v := 8) hx hb dX8_isWord_1 (by decide) ?_
  refine lv_icmp_ge (tgt := 22) hx hb dX8_isWord_3 (by decide) (fun c_1 => ?_) (fun c_1 => ?_)
  · have h := ifp c_1 h
    refine lv_iconst (v := 0) hx hb dX8_isWord_22 (by decide) ?_
    exact r_zret X (Or.inl rfl) hP hS dX8_isWord_23 h
  · have h := ifn c_1 h
    refine va_ldcS hx hb hown hF.2.2.2.2.2.1.1 dX8_isWord_6 ?_
    refine lv_iload_n hx hb dX8_isWord_8 rfl (lv_at hl 1 rfl) ?_
    refine lv_bipush (v := 8) hx hb dX8_isWord_9 (by decide) ?_
    refine lv_imul hx hb dX8_isWord_11 ?_
    refine lv_iload_n hx hb dX8_isWord_12 rfl (lv_at hl 3 rfl) ?_
    refine lv_iadd hx hb dX8_isWord_13 ?_
    obtain ⟨hin_2, h⟩ := gx_some h
    refine r_charAt (rest := []) X hP hS hI hin_2 wt_3_120 ⟨by first | exact Nat.le_of_ble_eq_true rfl | (dsimp only; omega), by first | exact Nat.le_of_ble_eq_true rfl | (dsimp only; omega)⟩ hl.1 (Nat.le_of_ble_eq_true rfl) dX8_isWord_14 (fun H locs hP hS => ?_)
    refine lv_bipush (v := 32) hx hb dX8_isWord_17 (by decide) ?_
    refine lv_icmp_eq (tgt := 24) hx hb dX8_isWord_19 (by decide) (fun c_3 => ?_) (fun c_3 => ?_)
    · have h := ifp c_3 h
      refine lv_iconst (v := 0) hx hb dX8_isWord_24 (by decide) ?_
      refine lv_istore (lv' := [(4, .int 0), (0, .ref (A (rp i 0))), (1, .int a1), (2, .int a2), (3, .int a3)]) hx hb dX8_isWord_25 hl (by decide) rfl (fun ls hl => ?_)
      exact tX8_isWord_27 hI hi   X FL a1 a2 a3 0 m _ _ _  h hP hS (lv_sub hl [1, 2, 3, 4, 0] rfl)
    · have h := ifn c_3 h
      refine lv_iconst (v := 0) hx hb dX8_isWord_22 (by decide) ?_
      exact r_zret X (Or.inl rfl) hP hS dX8_isWord_23 h

def fX8_wordAt_28 (i : Nat) : Nat → Int32 → Int32 → Int32 → Mm → Option (Int32 × Mm)
  | 0, _, _, _, _ => none
  | n + 1, x1, x3, x4, m => (if (18 : Int32) ≤ x4 then some ((-2), m) else bd (fX8_isWord i x4 x1 (x3 - x1) m) fun r_3 m_4 => (if r_3 = 0 then lt ((x4 : Int32) + 1) fun x4_7 => (fX8_wordAt_28 i n x1 x3 x4_7 m_4) else some (x4, m_4)))
set_option maxHeartbeats 4000000 in
set_option maxRecDepth 100000 in
theorem tX8_wordAt_28 (hI : InjA cN A) {i : Nat} (hi : i < 3) {r : Int32} {m' : Mm} (X : CX cLay cN D cA A p s m0 args meth c "BenchTowels$Rules" cX8_wordAt 5 (some .int)) : ∀ (n : Nat) (x1 : Int32) (x3 : Int32) (x4 : Int32) (m : Mm) (H : Heap) (locs : List Loc) (ls : Array Slot), fX8_wordAt_28 i n x1 x3 x4 m = some (r, m') → va_P D vwCl (wsOf cLay cN cA A m) H → va_S (AW cN A) s.heap H locs → lv_has ls 5 [(0, .ref (A (rp i 0))), (1, .int x1), (3, .int x3), (4, .int x4)] → W p l e { frames := 9, cells := 0, slots := 0, locals := 184 } s m0 args below meth c H locs 0 0 (ZR below args s cLay cN D cA A (some (.int r)) m') (F0 m0 28 ls []) := by
  have hx := X.1
  have hb := X.2.1
  have hml := X.2.2.1
  have hown := X.2.2.2.1
  have hts := X.2.2.2.2.1
  have hF := X.2.2.2.2.2.2.2.2.1
  intro n
  induction n with
  | zero =>
    intro x1 x3 x4 m H locs ls h hP hS hl
    exact absurd h (by rewrite [fX8_wordAt_28]; exact fun q => by cases q)
  | succ n ih =>
    intro x1 x3 x4 m H locs ls h hP hS hl
    rewrite [fX8_wordAt_28] at h
    refine lv_iload hx hb dX8_wordAt_28 (lv_at hl 3 rfl) ?_
    refine lv_bipush (v := 18) hx hb dX8_wordAt_30 (by decide) ?_
    refine lv_icmp_ge (tgt := 57) hx hb dX8_wordAt_32 (by decide) (fun c_2 => ?_) (fun c_2 => ?_)
    · have h := ifp c_2 h
      refine lv_bipush (v := (-2)) hx hb dX8_wordAt_57 (by decide) ?_
      exact r_iret X hP hS dX8_wordAt_59 h
    · have h := ifn c_2 h
      refine lv_aload_n hx hb dX8_wordAt_35 rfl (lv_at hl 0 rfl) ?_
      refine lv_iload hx hb dX8_wordAt_36 (lv_at hl 3 rfl) ?_
      refine lv_iload_n hx hb dX8_wordAt_38 rfl (lv_at hl 1 rfl) ?_
      refine lv_iload_n hx hb dX8_wordAt_39 rfl (lv_at hl 2 rfl) ?_
      refine lv_iload_n hx hb dX8_wordAt_40 rfl (lv_at hl 1 rfl) ?_
      refine lv_isub hx hb dX8_wordAt_41 ?_
      obtain ⟨r_3, m_4, hc_5, h⟩ := bd_some h
      refine c_V (rest := []) X hP hS (tX8_isWord hI hi hc_5) (lt_r hi (by decide)) (L_rules hi _) rfl wt_3_115 wt_3_117 ws_1_6 wt_1_2 wt_3_118 ⟨rfl, hy_X8_isWord⟩ ⟨rfl, rfl⟩ ⟨Nat.le_of_ble_eq_true rfl, Nat.le_of_ble_eq_true rfl⟩ rfl hl.1 rfl (Nat.le_of_ble_eq_true rfl) dX8_wordAt_42 rfl (fun H locs hP hS => ?_)
      refine lv_if_eq (tgt := 51) hx hb dX8_wordAt_45 (by decide) (fun c_6 => ?_) (fun c_6 => ?_)
      · have h := ifp c_6 h
        obtain ⟨x4_7, ex_8, h⟩ := lt_some h
        refine lv_iinc (v := x4_7) (lv' := [(4, .int x4_7), (0, .ref (A (rp i 0))), (1, .int x1), (3, .int x3)]) hx hb dX8_wordAt_51 hl (k := 3) rfl (by rw [ex_8]; rfl) (by decide) rfl (fun ls hl => ?_)
        refine lv_goto (tgt := 28) hx hb dX8_wordAt_54 (by decide) ?_
        exact ih x1 x3 x4_7 m_4 _ _ _  h hP hS (lv_sub hl [1, 2, 3, 0] rfl)
      · have h := ifn c_6 h
        refine lv_iload hx hb dX8_wordAt_48 (lv_at hl 3 rfl) ?_
        exact r_iret X hP hS dX8_wordAt_50 h

def fX8_wordAt_2 (i : Nat) : Nat → Int32 → Int32 → Int32 → Mm → Option (Int32 × Mm)
  | 0, _, _, _, _ => none
  | n + 1, x1, x2, x3, m => (if (x2 : Int32) ≤ x3 then (fX8_wordAt_28 i FL x1 x3 0 m) else gx x3 200 (bd (fX8_isLetter (m 1 (ix x3)) m) fun r_10 m_11 => (if r_10 = 0 then (fX8_wordAt_28 i FL x1 x3 0 m_11) else lt ((x3 : Int32) + 1) fun x3_14 => (fX8_wordAt_2 i n x1 x2 x3_14 m_11))))
set_option maxHeartbeats 4000000 in
set_option maxRecDepth 100000 in
theorem tX8_wordAt_2 (hI : InjA cN A) {i : Nat} (hi : i < 3) {r : Int32} {m' : Mm} (X : CX cLay cN D cA A p s m0 args meth c "BenchTowels$Rules" cX8_wordAt 5 (some .int)) : ∀ (n : Nat) (x1 : Int32) (x2 : Int32) (x3 : Int32) (m : Mm) (H : Heap) (locs : List Loc) (ls : Array Slot), fX8_wordAt_2 i n x1 x2 x3 m = some (r, m') → va_P D vwCl (wsOf cLay cN cA A m) H → va_S (AW cN A) s.heap H locs → lv_has ls 5 [(0, .ref (A (rp i 0))), (1, .int x1), (2, .int x2), (3, .int x3)] → W p l e { frames := 9, cells := 0, slots := 0, locals := 184 } s m0 args below meth c H locs 0 0 (ZR below args s cLay cN D cA A (some (.int r)) m') (F0 m0 2 ls []) := by
  have hx := X.1
  have hb := X.2.1
  have hml := X.2.2.1
  have hown := X.2.2.2.1
  have hts := X.2.2.2.2.1
  have hF := X.2.2.2.2.2.2.2.2.1
  intro n
  induction n with
  | zero =>
    intro x1 x2 x3 m H locs ls h hP hS hl
    exact absurd h (by rewrite [fX8_wordAt_2]; exact fun q => by cases q)
  | succ n ih =>
    intro x1 x2 x3 m H locs ls h hP hS hl
    rewrite [fX8_wordAt_2] at h
    refine lv_iload_n hx hb dX8_wordAt_2 rfl (lv_at hl 3 rfl) ?_
    refine lv_iload_n hx hb dX8_wordAt_3 rfl (lv_at hl 2 rfl) ?_
    refine lv_icmp_ge (tgt := 25) hx hb dX8_wordAt_4 (by decide) (fun c_1 => ?_) (fun c_1 => ?_)
    · have h := ifp c_1 h
      refine lv_iconst (v := 0) hx hb dX8_wordAt_25 (by decide) ?_
      refine lv_istore (lv' := [(4, .int 0), (0, .ref (A (rp i 0))), (1, .int x1), (2, .int x2), (3, .int x3)]) hx hb dX8_wordAt_26 hl (by decide) rfl (fun ls hl => ?_)
      exact tX8_wordAt_28 hI hi   X FL x1 x3 0 m _ _ _  h hP hS (lv_sub hl [1, 2, 4, 0] rfl)
    · have h := ifn c_1 h
      refine lv_aload_n hx hb dX8_wordAt_7 rfl (lv_at hl 0 rfl) ?_
      refine r_get kc_8 9 X hP (lt_r hi (by decide)) (L_rules hi _) (by decide) rfl wt_1_45 dX8_wordAt_8 ?_
      refine lv_iload_n hx hb dX8_wordAt_11 rfl (lv_at hl 3 rfl) ?_
      obtain ⟨hin_9, h⟩ := gx_some h
      refine r_bald X hP (by decide) (La_1 _) hin_9 rfl dX8_wordAt_12 ?_
      obtain ⟨r_10, m_11, hc_12, h⟩ := bd_some h
      refine c_S (rest := []) X hP hS (tX8_isLetter hI  hc_12) wt_3_101 wt_3_102 wt_1_2 wt_3_103 hy_X8_isLetter ⟨rfl, rfl⟩ ⟨Nat.le_of_ble_eq_true rfl, Nat.le_of_ble_eq_true rfl⟩ rfl hl.1 rfl (Nat.le_of_ble_eq_true rfl) dX8_wordAt_13 rfl (fun H locs hP hS => ?_)
      refine lv_if_eq (tgt := 25) hx hb dX8_wordAt_16 (by decide) (fun c_13 => ?_) (fun c_13 => ?_)
      · have h := ifp c_13 h
        refine lv_iconst (v := 0) hx hb dX8_wordAt_25 (by decide) ?_
        refine lv_istore (lv' := [(4, .int 0), (0, .ref (A (rp i 0))), (1, .int x1), (2, .int x2), (3, .int x3)]) hx hb dX8_wordAt_26 hl (by decide) rfl (fun ls hl => ?_)
        exact tX8_wordAt_28 hI hi   X FL x1 x3 0 m_11 _ _ _  h hP hS (lv_sub hl [1, 2, 4, 0] rfl)
      · have h := ifn c_13 h
        obtain ⟨x3_14, ex_15, h⟩ := lt_some h
        refine lv_iinc (v := x3_14) (lv' := [(3, .int x3_14), (0, .ref (A (rp i 0))), (1, .int x1), (2, .int x2)]) hx hb dX8_wordAt_19 hl (k := 3) rfl (by rw [ex_15]; rfl) (by decide) rfl (fun ls hl => ?_)
        refine lv_goto (tgt := 2) hx hb dX8_wordAt_22 (by decide) ?_
        exact ih x1 x2 x3_14 m_11 _ _ _  h hP hS (lv_sub hl [1, 2, 3, 0] rfl)

def fX8_wordAt (i : Nat) (a1 : Int32) (a2 : Int32) (m : Mm) : Option (Int32 × Mm) := (fX8_wordAt_2 i FL a1 a2 a1 m)
set_option maxHeartbeats 4000000 in
set_option maxRecDepth 100000 in
theorem tX8_wordAt {l : Launch} {D : va_G} {cA : Nat → ClassId} {A : Nat → Nat} (hI : InjA cN A) {i : Nat} (hi : i < 3) {a1 : Int32} {a2 : Int32} {m m' : Mm} {r : Int32} (h : fX8_wordAt i a1 a2 m = some (r, m')) : Met0 l yX8_wordAt cX8_wordAt 5 (some .int) { frames := 9, cells := 0, slots := 0, locals := 184 } cLay cN D cA A [.ref (A (rp i 0)), .int a1, .int a2] m (some (.int r)) m' := by
  refine met0_of (by decide) (Nat.le_of_ble_eq_true rfl) hI ?_
  intro p e s m0 below meth c ls X hinit hP hS hl
  generalize ([.ref (A (rp i 0)), .int a1, .int a2] : List Value).toArray = args at X ⊢
  have hl : lv_has ls 5 [(0, .ref (A (rp i 0))), (1, .int a1), (2, .int a2)] := hl
  have X : CX cLay cN D cA A p s m0 args meth c "BenchTowels$Rules" cX8_wordAt 5 (some .int) := X
  have hx := X.1
  have hb := X.2.1
  have hml := X.2.2.1
  have hown := X.2.2.2.1
  have hts := X.2.2.2.2.1
  have hF := X.2.2.2.2.2.2.2.2.1
  rewrite [fX8_wordAt] at h
  refine lv_iload_n hx hb dX8_wordAt_0 rfl (lv_at hl 1 rfl) ?_
  refine lv_istore_n (lv' := [(3, .int a1), (0, .ref (A (rp i 0))), (1, .int a1), (2, .int a2)]) hx hb dX8_wordAt_1 rfl hl (by decide) rfl (fun ls hl => ?_)
  exact tX8_wordAt_2 hI hi   X FL a1 a2 a1 m _ _ _  h hP hS (lv_sub hl [1, 2, 3, 0] rfl)

def fX8_tokenAt (i : Nat) (a1 : Int32) (a2 : Int32) (m : Mm) : Option (Int32 × Mm) := gx a1 200 (bd (fX8_isLetter (m 1 (ix a1)) m) fun r_2 m_3 => (if r_2 = 0 then bd (fX8_isDigit (m_3 1 (ix a1)) m_3) fun r_6 m_7 => (if r_6 = 0 then some (((256 : Int32) + ((m_7 1 (ix a1)) &&& 255)), m_7) else bd (fX8_numberAt i a1 a2 m_7) fun r_10 m_11 => some (r_10, m_11)) else bd (fX8_wordAt i a1 a2 m_3) fun r_13 m_14 => some (r_13, m_14)))
set_option maxHeartbeats 4000000 in
set_option maxRecDepth 100000 in
theorem tX8_tokenAt {l : Launch} {D : va_G} {cA : Nat → ClassId} {A : Nat → Nat} (hI : InjA cN A) {i : Nat} (hi : i < 3) {a1 : Int32} {a2 : Int32} {m m' : Mm} {r : Int32} (h : fX8_tokenAt i a1 a2 m = some (r, m')) : Met0 l yX8_tokenAt cX8_tokenAt 3 (some .int) { frames := 10, cells := 0, slots := 0, locals := 208 } cLay cN D cA A [.ref (A (rp i 0)), .int a1, .int a2] m (some (.int r)) m' := by
  refine met0_of (by decide) (Nat.le_of_ble_eq_true rfl) hI ?_
  intro p e s m0 below meth c ls X hinit hP hS hl
  generalize ([.ref (A (rp i 0)), .int a1, .int a2] : List Value).toArray = args at X ⊢
  have hl : lv_has ls 3 [(0, .ref (A (rp i 0))), (1, .int a1), (2, .int a2)] := hl
  have X : CX cLay cN D cA A p s m0 args meth c "BenchTowels$Rules" cX8_tokenAt 3 (some .int) := X
  have hx := X.1
  have hb := X.2.1
  have hml := X.2.2.1
  have hown := X.2.2.2.1
  have hts := X.2.2.2.2.1
  have hF := X.2.2.2.2.2.2.2.2.1
  rewrite [fX8_tokenAt] at h
  refine lv_aload_n hx hb dX8_tokenAt_0 rfl (lv_at hl 0 rfl) ?_
  refine r_get kc_8 9 X hP (lt_r hi (by decide)) (L_rules hi _) (by decide) rfl wt_1_45 dX8_tokenAt_1 ?_
  refine lv_iload_n hx hb dX8_tokenAt_4 rfl (lv_at hl 1 rfl) ?_
  obtain ⟨hin_1, h⟩ := gx_some h
  refine r_bald X hP (by decide) (La_1 _) hin_1 rfl dX8_tokenAt_5 ?_
  obtain ⟨r_2, m_3, hc_4, h⟩ := bd_some h
  refine c_S (rest := []) X hP hS (tX8_isLetter hI  hc_4) wt_3_101 wt_3_102 wt_1_2 wt_3_103 hy_X8_isLetter ⟨rfl, rfl⟩ ⟨Nat.le_of_ble_eq_true rfl, Nat.le_of_ble_eq_true rfl⟩ rfl hl.1 rfl (Nat.le_of_ble_eq_true rfl) dX8_tokenAt_6 rfl (fun H locs hP hS => ?_)
  refine lv_if_eq (tgt := 19) hx hb dX8_tokenAt_9 (by decide) (fun c_5 => ?_) (fun c_5 => ?_)
  · have h := ifp c_5 h
    refine lv_aload_n hx hb dX8_tokenAt_19 rfl (lv_at hl 0 rfl) ?_
    refine r_get kc_8 9 X hP (lt_r hi (by decide)) (L_rules hi _) (by decide) rfl wt_1_45 dX8_tokenAt_20 ?_
    refine lv_iload_n hx hb dX8_tokenAt_23 rfl (lv_at hl 1 rfl) ?_
    refine r_bald X hP (by decide) (La_1 _) hin_1 rfl dX8_tokenAt_24 ?_
    obtain ⟨r_6, m_7, hc_8, h⟩ := bd_some h
    refine c_S (rest := []) X hP hS (tX8_isDigit hI  hc_8) wt_3_104 wt_3_105 wt_1_2 wt_3_106 hy_X8_isDigit ⟨rfl, rfl⟩ ⟨Nat.le_of_ble_eq_true rfl, Nat.le_of_ble_eq_true rfl⟩ rfl hl.1 rfl (Nat.le_of_ble_eq_true rfl) dX8_tokenAt_25 rfl (fun H locs hP hS => ?_)
    refine lv_if_eq (tgt := 40) hx hb dX8_tokenAt_28 (by decide) (fun c_9 => ?_) (fun c_9 => ?_)
    · have h := ifp c_9 h
      refine lv_sipush (v := 256) hx hb dX8_tokenAt_40 (by decide) ?_
      refine lv_aload_n hx hb dX8_tokenAt_43 rfl (lv_at hl 0 rfl) ?_
      refine r_get kc_8 9 X hP (lt_r hi (by decide)) (L_rules hi _) (by decide) rfl wt_1_45 dX8_tokenAt_44 ?_
      refine lv_iload_n hx hb dX8_tokenAt_47 rfl (lv_at hl 1 rfl) ?_
      refine r_bald X hP (by decide) (La_1 _) hin_1 rfl dX8_tokenAt_48 ?_
      refine lv_sipush (v := 255) hx hb dX8_tokenAt_49 (by decide) ?_
      refine lv_iand hx hb dX8_tokenAt_52 ?_
      refine lv_iadd hx hb dX8_tokenAt_53 ?_
      exact r_iret X hP hS dX8_tokenAt_54 h
    · have h := ifn c_9 h
      refine lv_aload_n hx hb dX8_tokenAt_31 rfl (lv_at hl 0 rfl) ?_
      refine lv_iload_n hx hb dX8_tokenAt_32 rfl (lv_at hl 1 rfl) ?_
      refine lv_iload_n hx hb dX8_tokenAt_33 rfl (lv_at hl 2 rfl) ?_
      obtain ⟨r_10, m_11, hc_12, h⟩ := bd_some h
      refine c_V (rest := []) X hP hS (tX8_numberAt hI hi hc_12) (lt_r hi (by decide)) (L_rules hi _) rfl wt_3_160 wt_3_162 ws_1_7 wt_1_2 wt_3_163 ⟨rfl, hy_X8_numberAt⟩ ⟨rfl, rfl⟩ ⟨Nat.le_of_ble_eq_true rfl, Nat.le_of_ble_eq_true rfl⟩ rfl hl.1 rfl (Nat.le_of_ble_eq_true rfl) dX8_tokenAt_34 rfl (fun H locs hP hS => ?_)
      refine lv_goto (tgt := 54) hx hb dX8_tokenAt_37 (by decide) ?_
      exact r_iret X hP hS dX8_tokenAt_54 h
  · have h := ifn c_5 h
    refine lv_aload_n hx hb dX8_tokenAt_12 rfl (lv_at hl 0 rfl) ?_
    refine lv_iload_n hx hb dX8_tokenAt_13 rfl (lv_at hl 1 rfl) ?_
    refine lv_iload_n hx hb dX8_tokenAt_14 rfl (lv_at hl 2 rfl) ?_
    obtain ⟨r_13, m_14, hc_15, h⟩ := bd_some h
    refine c_V (rest := []) X hP hS (tX8_wordAt hI hi hc_15) (lt_r hi (by decide)) (L_rules hi _) rfl wt_3_111 wt_3_113 ws_1_5 wt_1_2 wt_3_114 ⟨rfl, hy_X8_wordAt⟩ ⟨rfl, rfl⟩ ⟨Nat.le_of_ble_eq_true rfl, Nat.le_of_ble_eq_true rfl⟩ rfl hl.1 rfl (Nat.le_of_ble_eq_true rfl) dX8_tokenAt_15 rfl (fun H locs hP hS => ?_)
    exact r_iret X hP hS dX8_tokenAt_18 h

def fX8_cut_4 (i : Nat) : Nat → Int32 → Int32 → Int32 → Mm → Option (Int32 × Mm)
  | 0, _, _, _, _ => none
  | n + 1, x1, x2, x3, m => (if (x1 : Int32) ≤ x3 then gx x2 201 (lt (up m (rp i 8) (ix x2) (-1)) fun m_3 => lt (up m_3 (rp i 9) (ix x2) x1) fun m_5 => some (0, m_5)) else bd (fX8_beginsAt i x3 m) fun r_7 m_8 => (if r_7 = 0 then lt ((x3 : Int32) + 1) fun x3_23 => (fX8_cut_4 i n x1 x2 x3_23 m_8) else bd (fX8_tokenAt i x3 x1 m_8) fun r_11 m_12 => gx x2 201 (lt (up m_12 (rp i 8) (ix x2) r_11) fun m_15 => lt (up m_15 (rp i 9) (ix x2) x3) fun m_17 => lt ((x2 : Int32) + 1) fun x2_19 => lt ((x3 : Int32) + 1) fun x3_21 => (fX8_cut_4 i n x1 x2_19 x3_21 m_17))))
set_option maxHeartbeats 4000000 in
set_option maxRecDepth 100000 in
theorem tX8_cut_4 (hI : InjA cN A) {i : Nat} (hi : i < 3) {r : Int32} {m' : Mm} (X : CX cLay cN D cA A p s m0 args meth c "BenchTowels$Rules" cX8_cut 4 none) : ∀ (n : Nat) (x1 : Int32) (x2 : Int32) (x3 : Int32) (m : Mm) (H : Heap) (locs : List Loc) (ls : Array Slot), fX8_cut_4 i n x1 x2 x3 m = some (r, m') → va_P D vwCl (wsOf cLay cN cA A m) H → va_S (AW cN A) s.heap H locs → lv_has ls 4 [(0, .ref (A (rp i 0))), (1, .int x1), (2, .int x2), (3, .int x3)] → W p l e { frames := 11, cells := 0, slots := 0, locals := 230 } s m0 args below meth c H locs 0 0 (ZR below args s cLay cN D cA A none m') (F0 m0 4 ls []) := by
  have hx := X.1
  have hb := X.2.1
  have hml := X.2.2.1
  have hown := X.2.2.2.1
  have hts := X.2.2.2.2.1
  have hF := X.2.2.2.2.2.2.2.2.1
  intro n
  induction n with
  | zero =>
    intro x1 x2 x3 m H locs ls h hP hS hl
    exact absurd h (by rewrite [fX8_cut_4]; exact fun q => by cases q)
  | succ n ih =>
    intro x1 x2 x3 m H locs ls h hP hS hl
    rewrite [fX8_cut_4] at h
    refine lv_iload_n hx hb dX8_cut_4 rfl (lv_at hl 3 rfl) ?_
    refine lv_iload_n hx hb dX8_cut_5 rfl (lv_at hl 1 rfl) ?_
    refine lv_icmp_ge (tgt := 48) hx hb dX8_cut_6 (by decide) (fun c_1 => ?_) (fun c_1 => ?_)
    · have h := ifp c_1 h
      refine lv_aload_n hx hb dX8_cut_48 rfl (lv_at hl 0 rfl) ?_
      refine r_get kc_8 10 X hP (lt_r hi (by decide)) (L_rules hi _) (by decide) rfl wt_1_46 dX8_cut_49 ?_
      refine lv_iload_n hx hb dX8_cut_52 rfl (lv_at hl 2 rfl) ?_
      refine lv_iconst (v := (-1)) hx hb dX8_cut_53 (by decide) ?_
      obtain ⟨hin_2, h⟩ := gx_some h
      obtain ⟨m_3, em_4, h⟩ := lt_some h
      refine r_iast X hP hS (lt_r hi (by decide)) (La_r_8 hi) hin_2 rfl dX8_cut_54 em_4 (fun H locs hP hS => ?_)
      refine lv_aload_n hx hb dX8_cut_55 rfl (lv_at hl 0 rfl) ?_
      refine r_get kc_8 11 X hP (lt_r hi (by decide)) (L_rules hi _) (by decide) rfl wt_1_47 dX8_cut_56 ?_
      refine lv_iload_n hx hb dX8_cut_59 rfl (lv_at hl 2 rfl) ?_
      refine lv_iload_n hx hb dX8_cut_60 rfl (lv_at hl 1 rfl) ?_
      obtain ⟨m_5, em_6, h⟩ := lt_some h
      refine r_iast X hP hS (lt_r hi (by decide)) (La_r_9 hi) hin_2 rfl dX8_cut_61 em_6 (fun H locs hP hS => ?_)
      exact r_vret X hP hS dX8_cut_62 h
    · have h := ifn c_1 h
      refine lv_aload_n hx hb dX8_cut_9 rfl (lv_at hl 0 rfl) ?_
      refine lv_iload_n hx hb dX8_cut_10 rfl (lv_at hl 3 rfl) ?_
      obtain ⟨r_7, m_8, hc_9, h⟩ := bd_some h
      refine c_V (rest := []) X hP hS (tX8_beginsAt hI hi hc_9) (lt_r hi (by decide)) (L_rules hi _) rfl wt_3_97 wt_3_99 ws_1_3 wt_1_2 wt_3_100 ⟨rfl, hy_X8_beginsAt⟩ ⟨rfl, rfl⟩ ⟨Nat.le_of_ble_eq_true rfl, Nat.le_of_ble_eq_true rfl⟩ rfl hl.1 rfl (Nat.le_of_ble_eq_true rfl) dX8_cut_11 rfl (fun H locs hP hS => ?_)
      refine lv_if_ne (tgt := 20) hx hb dX8_cut_14 (by decide) (fun c_10 => ?_) (fun c_10 => ?_)
      · have h := ifn c_10 h
        refine lv_aload_n hx hb dX8_cut_20 rfl (lv_at hl 0 rfl) ?_
        refine r_get kc_8 10 X hP (lt_r hi (by decide)) (L_rules hi _) (by decide) rfl wt_1_46 dX8_cut_21 ?_
        refine lv_iload_n hx hb dX8_cut_24 rfl (lv_at hl 2 rfl) ?_
        refine lv_aload_n hx hb dX8_cut_25 rfl (lv_at hl 0 rfl) ?_
        refine lv_iload_n hx hb dX8_cut_26 rfl (lv_at hl 3 rfl) ?_
        refine lv_iload_n hx hb dX8_cut_27 rfl (lv_at hl 1 rfl) ?_
        obtain ⟨r_11, m_12, hc_13, h⟩ := bd_some h
        refine c_V (rest := [.int x2, .ref (A (rp i 8))]) X hP hS (tX8_tokenAt hI hi hc_13) (lt_r hi (by decide)) (L_rules hi _) rfl wt_3_107 wt_3_109 ws_1_4 wt_1_2 wt_3_110 ⟨rfl, hy_X8_tokenAt⟩ ⟨rfl, rfl⟩ ⟨Nat.le_of_ble_eq_true rfl, Nat.le_of_ble_eq_true rfl⟩ rfl hl.1 rfl (Nat.le_of_ble_eq_true rfl) dX8_cut_28 rfl (fun H locs hP hS => ?_)
        obtain ⟨hin_14, h⟩ := gx_some h
        obtain ⟨m_15, em_16, h⟩ := lt_some h
        refine r_iast X hP hS (lt_r hi (by decide)) (La_r_8 hi) hin_14 rfl dX8_cut_31 em_16 (fun H locs hP hS => ?_)
        refine lv_aload_n hx hb dX8_cut_32 rfl (lv_at hl 0 rfl) ?_
        refine r_get kc_8 11 X hP (lt_r hi (by decide)) (L_rules hi _) (by decide) rfl wt_1_47 dX8_cut_33 ?_
        refine lv_iload_n hx hb dX8_cut_36 rfl (lv_at hl 2 rfl) ?_
        refine lv_iload_n hx hb dX8_cut_37 rfl (lv_at hl 3 rfl) ?_
        obtain ⟨m_17, em_18, h⟩ := lt_some h
        refine r_iast X hP hS (lt_r hi (by decide)) (La_r_9 hi) hin_14 rfl dX8_cut_38 em_18 (fun H locs hP hS => ?_)
        obtain ⟨x2_19, ex_20, h⟩ := lt_some h
        refine lv_iinc (v := x2_19) (lv' := [(2, .int x2_19), (0, .ref (A (rp i 0))), (1, .int x1), (3, .int x3)]) hx hb dX8_cut_39 hl (k := 2) rfl (by rw [ex_20]; rfl) (by decide) rfl (fun ls hl => ?_)
        obtain ⟨x3_21, ex_22, h⟩ := lt_some h
        refine lv_iinc (v := x3_21) (lv' := [(3, .int x3_21), (2, .int x2_19), (0, .ref (A (rp i 0))), (1, .int x1)]) hx hb dX8_cut_42 hl (k := 3) rfl (by rw [ex_22]; rfl) (by decide) rfl (fun ls hl => ?_)
        refine lv_goto (tgt := 4) hx hb dX8_cut_45 (by decide) ?_
        exact ih x1 x2_19 x3_21 m_17 _ _ _  h hP hS (lv_sub hl [2, 3, 1, 0] rfl)
      · have h := ifp c_10 h
        refine lv_goto (tgt := 42) hx hb dX8_cut_17 (by decide) ?_
        obtain ⟨x3_23, ex_24, h⟩ := lt_some h
        refine lv_iinc (v := x3_23) (lv' := [(3, .int x3_23), (0, .ref (A (rp i 0))), (1, .int x1), (2, .int x2)]) hx hb dX8_cut_42 hl (k := 3) rfl (by rw [ex_24]; rfl) (by decide) rfl (fun ls hl => ?_)
        refine lv_goto (tgt := 4) hx hb dX8_cut_45 (by decide) ?_
        exact ih x1 x2 x3_23 m_8 _ _ _  h hP hS (lv_sub hl [1, 2, 3, 0] rfl)

def fX8_cut (i : Nat) (a1 : Int32) (m : Mm) : Option (Int32 × Mm) := (fX8_cut_4 i FL a1 0 0 m)
set_option maxHeartbeats 4000000 in
set_option maxRecDepth 100000 in
theorem tX8_cut {l : Launch} {D : va_G} {cA : Nat → ClassId} {A : Nat → Nat} (hI : InjA cN A) {i : Nat} (hi : i < 3) {a1 : Int32} {m m' : Mm} {r : Int32} (h : fX8_cut i a1 m = some (r, m')) : Met0 l yX8_cut cX8_cut 4 none { frames := 11, cells := 0, slots := 0, locals := 230 } cLay cN D cA A [.ref (A (rp i 0)), .int a1] m none m' := by
  refine met0_of (by decide) (Nat.le_of_ble_eq_true rfl) hI ?_
  intro p e s m0 below meth c ls X hinit hP hS hl
  generalize ([.ref (A (rp i 0)), .int a1] : List Value).toArray = args at X ⊢
  have hl : lv_has ls 4 [(0, .ref (A (rp i 0))), (1, .int a1)] := hl
  have X : CX cLay cN D cA A p s m0 args meth c "BenchTowels$Rules" cX8_cut 4 none := X
  have hx := X.1
  have hb := X.2.1
  have hml := X.2.2.1
  have hown := X.2.2.2.1
  have hts := X.2.2.2.2.1
  have hF := X.2.2.2.2.2.2.2.2.1
  rewrite [fX8_cut] at h
  refine lv_iconst (v := 0) hx hb dX8_cut_0 (by decide) ?_
  refine lv_istore_n (lv' := [(2, .int 0), (0, .ref (A (rp i 0))), (1, .int a1)]) hx hb dX8_cut_1 rfl hl (by decide) rfl (fun ls hl => ?_)
  refine lv_iconst (v := 0) hx hb dX8_cut_2 (by decide) ?_
  refine lv_istore_n (lv' := [(3, .int 0), (2, .int 0), (0, .ref (A (rp i 0))), (1, .int a1)]) hx hb dX8_cut_3 rfl hl (by decide) rfl (fun ls hl => ?_)
  exact tX8_cut_4 hI hi   X FL a1 0 0 m _ _ _  h hP hS (lv_sub hl [2, 3, 1, 0] rfl)

def fX8_next (i : Nat) (m : Mm) : Option (Int32 × Mm) := (if (200 : Int32) ≤ (m (rp i 0) 12) then some (0, m) else lt (up m (rp i 0) 12 ((m (rp i 0) 12) + 1)) fun m_2 => some (0, m_2))
set_option maxHeartbeats 4000000 in
set_option maxRecDepth 100000 in
theorem tX8_next {l : Launch} {D : va_G} {cA : Nat → ClassId} {A : Nat → Nat} (hI : InjA cN A) {i : Nat} (hi : i < 3) {m m' : Mm} {r : Int32} (h : fX8_next i m = some (r, m')) : Met0 l yX8_next cX8_next 1 none { frames := 0, cells := 0, slots := 0, locals := 0 } cLay cN D cA A [.ref (A (rp i 0))] m none m' := by
  refine met0_of (by decide) (Nat.le_of_ble_eq_true rfl) hI ?_
  intro p e s m0 below meth c ls X hinit hP hS hl
  generalize ([.ref (A (rp i 0))] : List Value).toArray = args at X ⊢
  have hl : lv_has ls 1 [(0, .ref (A (rp i 0)))] := hl
  have X : CX cLay cN D cA A p s m0 args meth c "BenchTowels$Rules" cX8_next 1 none := X
  have hx := X.1
  have hb := X.2.1
  have hml := X.2.2.1
  have hown := X.2.2.2.1
  have hts := X.2.2.2.2.1
  have hF := X.2.2.2.2.2.2.2.2.1
  rewrite [fX8_next] at h
  refine lv_aload_n hx hb dX8_next_0 rfl (lv_at hl 0 rfl) ?_
  refine r_get kc_8 12 X hP (lt_r hi (by decide)) (L_rules hi _) (by decide) rfl wt_1_48 dX8_next_1 ?_
  refine lv_sipush (v := 200) hx hb dX8_next_4 (by decide) ?_
  refine lv_icmp_ge (tgt := 20) hx hb dX8_next_7 (by decide) (fun c_1 => ?_) (fun c_1 => ?_)
  · have h := ifp c_1 h
    exact r_vret X hP hS dX8_next_20 h
  · have h := ifn c_1 h
    refine lv_aload_n hx hb dX8_next_10 rfl (lv_at hl 0 rfl) ?_
    refine lv_dup hx hb dX8_next_11 rfl ?_
    refine r_get kc_8 12 X hP (lt_r hi (by decide)) (L_rules hi _) (by decide) rfl wt_1_48 dX8_next_12 ?_
    refine lv_iconst (v := 1) hx hb dX8_next_15 (by decide) ?_
    refine lv_iadd hx hb dX8_next_16 ?_
    obtain ⟨m_2, em_3, h⟩ := lt_some h
    refine r_put kc_8 12 X hP hS (lt_r hi (by decide)) (L_rules hi _) (L_rules hi _) (by decide) wt_1_48 rfl (by decide +kernel) (Nat.le_of_ble_eq_true rfl) dX8_next_17 em_3 (fun H locs hP hS => ?_)
    exact r_vret X hP hS dX8_next_20 h

def fX8_isValue (a1 : Int32) (m : Mm) : Option (Int32 × Mm) := (if (1000 : Int32) ≤ a1 then some (1, m) else (if a1 < 13 then some (0, m) else (if (17 : Int32) < a1 then some (0, m) else some (1, m))))
set_option maxHeartbeats 4000000 in
set_option maxRecDepth 100000 in
theorem tX8_isValue {l : Launch} {D : va_G} {cA : Nat → ClassId} {A : Nat → Nat} (hI : InjA cN A) {a1 : Int32} {m m' : Mm} {r : Int32} (h : fX8_isValue a1 m = some (r, m')) : Met0 l yX8_isValue cX8_isValue 1 (some .boolean) { frames := 0, cells := 0, slots := 0, locals := 0 } cLay cN D cA A [.int a1] m (some (.int r)) m' := by
  refine met0_of (by decide) (Nat.le_of_ble_eq_true rfl) hI ?_
  intro p e s m0 below meth c ls X hinit hP hS hl
  generalize ([.int a1] : List Value).toArray = args at X ⊢
  have hl : lv_has ls 1 [(0, .int a1)] := hl
  have X : CX cLay cN D cA A p s m0 args meth c "BenchTowels$Rules" cX8_isValue 1 (some .boolean) := X
  have hx := X.1
  have hb := X.2.1
  have hml := X.2.2.1
  have hown := X.2.2.2.1
  have hts := X.2.2.2.2.1
  have hF := X.2.2.2.2.2.2.2.2.1
  rewrite [fX8_isValue] at h
  refine lv_iload_n hx hb dX8_isValue_0 rfl (lv_at hl 0 rfl) ?_
  refine lv_sipush (v := 1000) hx hb dX8_isValue_1 (by decide) ?_
  refine lv_icmp_ge (tgt := 19) hx hb dX8_isValue_4 (by decide) (fun c_1 => ?_) (fun c_1 => ?_)
  · have h := ifp c_1 h
    refine lv_iconst (v := 1) hx hb dX8_isValue_19 (by decide) ?_
    refine lv_goto (tgt := 24) hx hb dX8_isValue_20 (by decide) ?_
    exact r_zret X (Or.inr rfl) hP hS dX8_isValue_24 h
  · have h := ifn c_1 h
    refine lv_iload_n hx hb dX8_isValue_7 rfl (lv_at hl 0 rfl) ?_
    refine lv_bipush (v := 13) hx hb dX8_isValue_8 (by decide) ?_
    refine lv_icmp_lt (tgt := 23) hx hb dX8_isValue_10 (by decide) (fun c_2 => ?_) (fun c_2 => ?_)
    · have h := ifp c_2 h
      refine lv_iconst (v := 0) hx hb dX8_isValue_23 (by decide) ?_
      exact r_zret X (Or.inl rfl) hP hS dX8_isValue_24 h
    · have h := ifn c_2 h
      refine lv_iload_n hx hb dX8_isValue_13 rfl (lv_at hl 0 rfl) ?_
      refine lv_bipush (v := 17) hx hb dX8_isValue_14 (by decide) ?_
      refine lv_icmp_gt (tgt := 23) hx hb dX8_isValue_16 (by decide) (fun c_3 => ?_) (fun c_3 => ?_)
      · have h := ifp c_3 h
        refine lv_iconst (v := 0) hx hb dX8_isValue_23 (by decide) ?_
        exact r_zret X (Or.inl rfl) hP hS dX8_isValue_24 h
      · have h := ifn c_3 h
        refine lv_iconst (v := 1) hx hb dX8_isValue_19 (by decide) ?_
        refine lv_goto (tgt := 24) hx hb dX8_isValue_20 (by decide) ?_
        exact r_zret X (Or.inr rfl) hP hS dX8_isValue_24 h

def fX8_operand (a1 : Int32) (m : Mm) : Option (Int32 × Mm) := (if a1 < 1000 then some (((12 : Int32) - a1), m) else some ((a1 - 1000), m))
set_option maxHeartbeats 4000000 in
set_option maxRecDepth 100000 in
theorem tX8_operand {l : Launch} {D : va_G} {cA : Nat → ClassId} {A : Nat → Nat} (hI : InjA cN A) {a1 : Int32} {m m' : Mm} {r : Int32} (h : fX8_operand a1 m = some (r, m')) : Met0 l yX8_operand cX8_operand 1 (some .int) { frames := 0, cells := 0, slots := 0, locals := 0 } cLay cN D cA A [.int a1] m (some (.int r)) m' := by
  refine met0_of (by decide) (Nat.le_of_ble_eq_true rfl) hI ?_
  intro p e s m0 below meth c ls X hinit hP hS hl
  generalize ([.int a1] : List Value).toArray = args at X ⊢
  have hl : lv_has ls 1 [(0, .int a1)] := hl
  have X : CX cLay cN D cA A p s m0 args meth c "BenchTowels$Rules" cX8_operand 1 (some .int) := X
  have hx := X.1
  have hb := X.2.1
  have hml := X.2.2.1
  have hown := X.2.2.2.1
  have hts := X.2.2.2.2.1
  have hF := X.2.2.2.2.2.2.2.2.1
  rewrite [fX8_operand] at h
  refine lv_iload_n hx hb dX8_operand_0 rfl (lv_at hl 0 rfl) ?_
  refine lv_sipush (v := 1000) hx hb dX8_operand_1 (by decide) ?_
  refine lv_icmp_lt (tgt := 15) hx hb dX8_operand_4 (by decide) (fun c_1 => ?_) (fun c_1 => ?_)
  · have h := ifp c_1 h
    refine lv_bipush (v := 12) hx hb dX8_operand_15 (by decide) ?_
    refine lv_iload_n hx hb dX8_operand_17 rfl (lv_at hl 0 rfl) ?_
    refine lv_isub hx hb dX8_operand_18 ?_
    exact r_iret X hP hS dX8_operand_19 h
  · have h := ifn c_1 h
    refine lv_iload_n hx hb dX8_operand_7 rfl (lv_at hl 0 rfl) ?_
    refine lv_sipush (v := 1000) hx hb dX8_operand_8 (by decide) ?_
    refine lv_isub hx hb dX8_operand_11 ?_
    refine lv_goto (tgt := 19) hx hb dX8_operand_12 (by decide) ?_
    exact r_iret X hP hS dX8_operand_19 h

def fX8_add (i : Nat) (a1 : Int32) (a2 : Int32) (a3 : Int32) (m : Mm) : Option (Int32 × Mm) := (if (m (rp i 0) 8) < 200 then gx (m (rp i 0) 8) 200 (lt (up m (rp i 5) (ix (m (rp i 0) 8)) a1) fun m_3 => gx (m_3 (rp i 0) 8) 200 (lt (up m_3 (rp i 6) (ix (m_3 (rp i 0) 8)) a2) fun m_6 => gx (m_6 (rp i 0) 8) 200 (lt (up m_6 (rp i 7) (ix (m_6 (rp i 0) 8)) a3) fun m_9 => lt (up m_9 (rp i 0) 8 ((m_9 (rp i 0) 8) + 1)) fun m_11 => some (0, m_11)))) else some (0, m))
set_option maxHeartbeats 4000000 in
set_option maxRecDepth 100000 in
theorem tX8_add {l : Launch} {D : va_G} {cA : Nat → ClassId} {A : Nat → Nat} (hI : InjA cN A) {i : Nat} (hi : i < 3) {a1 : Int32} {a2 : Int32} {a3 : Int32} {m m' : Mm} {r : Int32} (h : fX8_add i a1 a2 a3 m = some (r, m')) : Met0 l yX8_add cX8_add 4 none { frames := 0, cells := 0, slots := 0, locals := 0 } cLay cN D cA A [.ref (A (rp i 0)), .int a1, .int a2, .int a3] m none m' := by
  refine met0_of (by decide) (Nat.le_of_ble_eq_true rfl) hI ?_
  intro p e s m0 below meth c ls X hinit hP hS hl
  generalize ([.ref (A (rp i 0)), .int a1, .int a2, .int a3] : List Value).toArray = args at X ⊢
  have hl : lv_has ls 4 [(0, .ref (A (rp i 0))), (1, .int a1), (2, .int a2), (3, .int a3)] := hl
  have X : CX cLay cN D cA A p s m0 args meth c "BenchTowels$Rules" cX8_add 4 none := X
  have hx := X.1
  have hb := X.2.1
  have hml := X.2.2.1
  have hown := X.2.2.2.1
  have hts := X.2.2.2.2.1
  have hF := X.2.2.2.2.2.2.2.2.1
  rewrite [fX8_add] at h
  refine lv_aload_n hx hb dX8_add_0 rfl (lv_at hl 0 rfl) ?_
  refine r_get kc_8 8 X hP (lt_r hi (by decide)) (L_rules hi _) (by decide) rfl wt_1_44 dX8_add_1 ?_
  refine lv_sipush (v := 200) hx hb dX8_add_4 (by decide) ?_
  refine lv_icmp_lt (tgt := 11) hx hb dX8_add_7 (by decide) (fun c_1 => ?_) (fun c_1 => ?_)
  · have h := ifp c_1 h
    refine lv_aload_n hx hb dX8_add_11 rfl (lv_at hl 0 rfl) ?_
    refine r_get kc_8 5 X hP (lt_r hi (by decide)) (L_rules hi _) (by decide) rfl wt_1_41 dX8_add_12 ?_
    refine lv_aload_n hx hb dX8_add_15 rfl (lv_at hl 0 rfl) ?_
    refine r_get kc_8 8 X hP (lt_r hi (by decide)) (L_rules hi _) (by decide) rfl wt_1_44 dX8_add_16 ?_
    refine lv_iload_n hx hb dX8_add_19 rfl (lv_at hl 1 rfl) ?_
    obtain ⟨hin_2, h⟩ := gx_some h
    obtain ⟨m_3, em_4, h⟩ := lt_some h
    refine r_iast X hP hS (lt_r hi (by decide)) (La_r_5 hi) hin_2 rfl dX8_add_20 em_4 (fun H locs hP hS => ?_)
    refine lv_aload_n hx hb dX8_add_21 rfl (lv_at hl 0 rfl) ?_
    refine r_get kc_8 6 X hP (lt_r hi (by decide)) (L_rules hi _) (by decide) rfl wt_1_42 dX8_add_22 ?_
    refine lv_aload_n hx hb dX8_add_25 rfl (lv_at hl 0 rfl) ?_
    refine r_get kc_8 8 X hP (lt_r hi (by decide)) (L_rules hi _) (by decide) rfl wt_1_44 dX8_add_26 ?_
    refine lv_iload_n hx hb dX8_add_29 rfl (lv_at hl 2 rfl) ?_
    obtain ⟨hin_5, h⟩ := gx_some h
    obtain ⟨m_6, em_7, h⟩ := lt_some h
    refine r_iast X hP hS (lt_r hi (by decide)) (La_r_6 hi) hin_5 rfl dX8_add_30 em_7 (fun H locs hP hS => ?_)
    refine lv_aload_n hx hb dX8_add_31 rfl (lv_at hl 0 rfl) ?_
    refine r_get kc_8 7 X hP (lt_r hi (by decide)) (L_rules hi _) (by decide) rfl wt_1_43 dX8_add_32 ?_
    refine lv_aload_n hx hb dX8_add_35 rfl (lv_at hl 0 rfl) ?_
    refine r_get kc_8 8 X hP (lt_r hi (by decide)) (L_rules hi _) (by decide) rfl wt_1_44 dX8_add_36 ?_
    refine lv_iload_n hx hb dX8_add_39 rfl (lv_at hl 3 rfl) ?_
    obtain ⟨hin_8, h⟩ := gx_some h
    obtain ⟨m_9, em_10, h⟩ := lt_some h
    refine r_iast X hP hS (lt_r hi (by decide)) (La_r_7 hi) hin_8 rfl dX8_add_40 em_10 (fun H locs hP hS => ?_)
    refine lv_aload_n hx hb dX8_add_41 rfl (lv_at hl 0 rfl) ?_
    refine lv_dup hx hb dX8_add_42 rfl ?_
    refine r_get kc_8 8 X hP (lt_r hi (by decide)) (L_rules hi _) (by decide) rfl wt_1_44 dX8_add_43 ?_
    refine lv_iconst (v := 1) hx hb dX8_add_46 (by decide) ?_
    refine lv_iadd hx hb dX8_add_47 ?_
    obtain ⟨m_11, em_12, h⟩ := lt_some h
    refine r_put kc_8 8 X hP hS (lt_r hi (by decide)) (L_rules hi _) (L_rules hi _) (by decide) wt_1_44 rfl (by decide +kernel) (Nat.le_of_ble_eq_true rfl) dX8_add_48 em_12 (fun H locs hP hS => ?_)
    exact r_vret X hP hS dX8_add_51 h
  · have h := ifn c_1 h
    exact r_vret X hP hS dX8_add_10 h

def fX8_readCompare (i : Nat) (m : Mm) : Option (Int32 × Mm) := gx (m (rp i 0) 12) 201 (lt (m (rp i 8) (ix (m (rp i 0) 12))) fun x1_2 => bd (fX8_isValue x1_2 m) fun r_4 m_5 => (if r_4 = 0 then some (0, m_5) else bd (fX8_next i m_5) fun r_8 m_9 => gx (m_9 (rp i 0) 12) 201 (lt (m_9 (rp i 8) (ix (m_9 (rp i 0) 12))) fun x2_12 => (if x2_12 < 316 then some (0, m_9) else (if x2_12 ≤ 318 then bd (fX8_next i m_9) fun r_16 m_17 => gx (m_17 (rp i 0) 12) 201 (lt (m_17 (rp i 8) (ix (m_17 (rp i 0) 12))) fun x3_20 => bd (fX8_isValue x3_20 m_17) fun r_22 m_23 => (if r_22 = 0 then some (0, m_23) else bd (fX8_next i m_23) fun r_26 m_27 => bd (fX8_operand x1_2 m_27) fun r_29 m_30 => bd (fX8_operand x3_20 m_30) fun r_32 m_33 => bd (fX8_add i x2_12 r_29 r_32 m_33) fun r_35 m_36 => some (1, m_36))) else some (0, m_9))))))
set_option maxHeartbeats 4000000 in
set_option maxRecDepth 100000 in
theorem tX8_readCompare {l : Launch} {D : va_G} {cA : Nat → ClassId} {A : Nat → Nat} (hI : InjA cN A) {i : Nat} (hi : i < 3) {m m' : Mm} {r : Int32} (h : fX8_readCompare i m = some (r, m')) : Met0 l yX8_readCompare cX8_readCompare 4 (some .boolean) { frames := 1, cells := 0, slots := 0, locals := 23 } cLay cN D cA A [.ref (A (rp i 0))] m (some (.int r)) m' := by
  refine met0_of (by decide) (Nat.le_of_ble_eq_true rfl) hI ?_
  intro p e s m0 below meth c ls X hinit hP hS hl
  generalize ([.ref (A (rp i 0))] : List Value).toArray = args at X ⊢
  have hl : lv_has ls 4 [(0, .ref (A (rp i 0)))] := hl
  have X : CX cLay cN D cA A p s m0 args meth c "BenchTowels$Rules" cX8_readCompare 4 (some .boolean) := X
  have hx := X.1
  have hb := X.2.1
  have hml := X.2.2.1
  have hown := X.2.2.2.1
  have hts := X.2.2.2.2.1
  have hF := X.2.2.2.2.2.2.2.2.1
  rewrite [fX8_readCompare] at h
  refine lv_aload_n hx hb dX8_readCompare_0 rfl (lv_at hl 0 rfl) ?_
  refine r_get kc_8 10 X hP (lt_r hi (by decide)) (L_rules hi _) (by decide) rfl wt_1_46 dX8_readCompare_1 ?_
  refine lv_aload_n hx hb dX8_readCompare_4 rfl (lv_at hl 0 rfl) ?_
  refine r_get kc_8 12 X hP (lt_r hi (by decide)) (L_rules hi _) (by decide) rfl wt_1_48 dX8_readCompare_5 ?_
  obtain ⟨hin_1, h⟩ := gx_some h
  refine r_iald X hP (lt_r hi (by decide)) ((La_r_8 hi) _) hin_1 rfl dX8_readCompare_8 ?_
  obtain ⟨x1_2, ex_3, h⟩ := lt_some h
  refine lv_ren ex_3 ?_
  refine lv_istore_n (lv' := [(1, .int x1_2), (0, .ref (A (rp i 0)))]) hx hb dX8_readCompare_9 rfl hl (by decide) rfl (fun ls hl => ?_)
  refine lv_iload_n hx hb dX8_readCompare_10 rfl (lv_at hl 0 rfl) ?_
  obtain ⟨r_4, m_5, hc_6, h⟩ := bd_some h
  refine c_S (rest := []) X hP hS (tX8_isValue hI  hc_6) wt_3_192 wt_3_193 wt_1_2 wt_3_194 hy_X8_isValue ⟨rfl, rfl⟩ ⟨Nat.le_of_ble_eq_true rfl, Nat.le_of_ble_eq_true rfl⟩ rfl hl.1 rfl (Nat.le_of_ble_eq_true rfl) dX8_readCompare_11 rfl (fun H locs hP hS => ?_)
  refine lv_if_ne (tgt := 19) hx hb dX8_readCompare_14 (by decide) (fun c_7 => ?_) (fun c_7 => ?_)
  · have h := ifn c_7 h
    refine lv_aload_n hx hb dX8_readCompare_19 rfl (lv_at hl 1 rfl) ?_
    obtain ⟨r_8, m_9, hc_10, h⟩ := bd_some h
    refine c_V (rest := []) X hP hS (tX8_next hI hi hc_10) (lt_r hi (by decide)) (L_rules hi _) rfl wt_3_168 wt_3_170 ws_1_9 wt_1_2 wt_3_171 ⟨rfl, hy_X8_next⟩ ⟨rfl, rfl⟩ ⟨Nat.le_of_ble_eq_true rfl, Nat.le_of_ble_eq_true rfl⟩ rfl hl.1 rfl (Nat.le_of_ble_eq_true rfl) dX8_readCompare_20 rfl (fun H locs hP hS => ?_)
    refine lv_aload_n hx hb dX8_readCompare_23 rfl (lv_at hl 1 rfl) ?_
    refine r_get kc_8 10 X hP (lt_r hi (by decide)) (L_rules hi _) (by decide) rfl wt_1_46 dX8_readCompare_24 ?_
    refine lv_aload_n hx hb dX8_readCompare_27 rfl (lv_at hl 1 rfl) ?_
    refine r_get kc_8 12 X hP (lt_r hi (by decide)) (L_rules hi _) (by decide) rfl wt_1_48 dX8_readCompare_28 ?_
    obtain ⟨hin_11, h⟩ := gx_some h
    refine r_iald X hP (lt_r hi (by decide)) ((La_r_8 hi) _) hin_11 rfl dX8_readCompare_31 ?_
    obtain ⟨x2_12, ex_13, h⟩ := lt_some h
    refine lv_ren ex_13 ?_
    refine lv_istore_n (lv' := [(2, .int x2_12), (1, .int x1_2), (0, .ref (A (rp i 0)))]) hx hb dX8_readCompare_32 rfl hl (by decide) rfl (fun ls hl => ?_)
    refine lv_iload_n hx hb dX8_readCompare_33 rfl (lv_at hl 0 rfl) ?_
    refine lv_sipush (v := 316) hx hb dX8_readCompare_34 (by decide) ?_
    refine lv_icmp_lt (tgt := 47) hx hb dX8_readCompare_37 (by decide) (fun c_14 => ?_) (fun c_14 => ?_)
    · have h := ifp c_14 h
      refine lv_iconst (v := 0) hx hb dX8_readCompare_47 (by decide) ?_
      exact r_zret X (Or.inl rfl) hP hS dX8_readCompare_48 h
    · have h := ifn c_14 h
      refine lv_iload_n hx hb dX8_readCompare_40 rfl (lv_at hl 0 rfl) ?_
      refine lv_sipush (v := 318) hx hb dX8_readCompare_41 (by decide) ?_
      refine lv_icmp_le (tgt := 49) hx hb dX8_readCompare_44 (by decide) (fun c_15 => ?_) (fun c_15 => ?_)
      · have h := ifp c_15 h
        refine lv_aload_n hx hb dX8_readCompare_49 rfl (lv_at hl 2 rfl) ?_
        obtain ⟨r_16, m_17, hc_18, h⟩ := bd_some h
        refine c_V (rest := []) X hP hS (tX8_next hI hi hc_18) (lt_r hi (by decide)) (L_rules hi _) rfl wt_3_168 wt_3_170 ws_1_9 wt_1_2 wt_3_171 ⟨rfl, hy_X8_next⟩ ⟨rfl, rfl⟩ ⟨Nat.le_of_ble_eq_true rfl, Nat.le_of_ble_eq_true rfl⟩ rfl hl.1 rfl (Nat.le_of_ble_eq_true rfl) dX8_readCompare_50 rfl (fun H locs hP hS => ?_)
        refine lv_aload_n hx hb dX8_readCompare_53 rfl (lv_at hl 2 rfl) ?_
        refine r_get kc_8 10 X hP (lt_r hi (by decide)) (L_rules hi _) (by decide) rfl wt_1_46 dX8_readCompare_54 ?_
        refine lv_aload_n hx hb dX8_readCompare_57 rfl (lv_at hl 2 rfl) ?_
        refine r_get kc_8 12 X hP (lt_r hi (by decide)) (L_rules hi _) (by decide) rfl wt_1_48 dX8_readCompare_58 ?_
        obtain ⟨hin_19, h⟩ := gx_some h
        refine r_iald X hP (lt_r hi (by decide)) ((La_r_8 hi) _) hin_19 rfl dX8_readCompare_61 ?_
        obtain ⟨x3_20, ex_21, h⟩ := lt_some h
        refine lv_ren ex_21 ?_
        refine lv_istore_n (lv' := [(3, .int x3_20), (2, .int x2_12), (1, .int x1_2), (0, .ref (A (rp i 0)))]) hx hb dX8_readCompare_62 rfl hl (by decide) rfl (fun ls hl => ?_)
        refine lv_iload_n hx hb dX8_readCompare_63 rfl (lv_at hl 0 rfl) ?_
        obtain ⟨r_22, m_23, hc_24, h⟩ := bd_some h
        refine c_S (rest := []) X hP hS (tX8_isValue hI  hc_24) wt_3_192 wt_3_193 wt_1_2 wt_3_194 hy_X8_isValue ⟨rfl, rfl⟩ ⟨Nat.le_of_ble_eq_true rfl, Nat.le_of_ble_eq_true rfl⟩ rfl hl.1 rfl (Nat.le_of_ble_eq_true rfl) dX8_readCompare_64 rfl (fun H locs hP hS => ?_)
        refine lv_if_ne (tgt := 72) hx hb dX8_readCompare_67 (by decide) (fun c_25 => ?_) (fun c_25 => ?_)
        · have h := ifn c_25 h
          refine lv_aload_n hx hb dX8_readCompare_72 rfl (lv_at hl 3 rfl) ?_
          obtain ⟨r_26, m_27, hc_28, h⟩ := bd_some h
          refine c_V (rest := []) X hP hS (tX8_next hI hi hc_28) (lt_r hi (by decide)) (L_rules hi _) rfl wt_3_168 wt_3_170 ws_1_9 wt_1_2 wt_3_171 ⟨rfl, hy_X8_next⟩ ⟨rfl, rfl⟩ ⟨Nat.le_of_ble_eq_true rfl, Nat.le_of_ble_eq_true rfl⟩ rfl hl.1 rfl (Nat.le_of_ble_eq_true rfl) dX8_readCompare_73 rfl (fun H locs hP hS => ?_)
          refine lv_aload_n hx hb dX8_readCompare_76 rfl (lv_at hl 3 rfl) ?_
          refine lv_iload_n hx hb dX8_readCompare_77 rfl (lv_at hl 1 rfl) ?_
          refine lv_iload_n hx hb dX8_readCompare_78 rfl (lv_at hl 2 rfl) ?_
          obtain ⟨r_29, m_30, hc_31, h⟩ := bd_some h
          refine c_S (rest := [.int x2_12, .ref (A (rp i 0))]) X hP hS (tX8_operand hI  hc_31) wt_3_195 wt_3_196 wt_1_2 wt_3_197 hy_X8_operand ⟨rfl, rfl⟩ ⟨Nat.le_of_ble_eq_true rfl, Nat.le_of_ble_eq_true rfl⟩ rfl hl.1 rfl (Nat.le_of_ble_eq_true rfl) dX8_readCompare_79 rfl (fun H locs hP hS => ?_)
          refine lv_iload_n hx hb dX8_readCompare_82 rfl (lv_at hl 0 rfl) ?_
          obtain ⟨r_32, m_33, hc_34, h⟩ := bd_some h
          refine c_S (rest := [.int r_29, .int x2_12, .ref (A (rp i 0))]) X hP hS (tX8_operand hI  hc_34) wt_3_195 wt_3_196 wt_1_2 wt_3_197 hy_X8_operand ⟨rfl, rfl⟩ ⟨Nat.le_of_ble_eq_true rfl, Nat.le_of_ble_eq_true rfl⟩ rfl hl.1 rfl (Nat.le_of_ble_eq_true rfl) dX8_readCompare_83 rfl (fun H locs hP hS => ?_)
          obtain ⟨r_35, m_36, hc_37, h⟩ := bd_some h
          refine c_V (rest := []) X hP hS (tX8_add hI hi hc_37) (lt_r hi (by decide)) (L_rules hi _) rfl wt_3_198 wt_3_200 ws_1_15 wt_1_2 wt_3_201 ⟨rfl, hy_X8_add⟩ ⟨rfl, rfl⟩ ⟨Nat.le_of_ble_eq_true rfl, Nat.le_of_ble_eq_true rfl⟩ rfl hl.1 rfl (Nat.le_of_ble_eq_true rfl) dX8_readCompare_86 rfl (fun H locs hP hS => ?_)
          refine lv_iconst (v := 1) hx hb dX8_readCompare_89 (by decide) ?_
          exact r_zret X (Or.inr rfl) hP hS dX8_readCompare_90 h
        · have h := ifp c_25 h
          refine lv_iconst (v := 0) hx hb dX8_readCompare_70 (by decide) ?_
          exact r_zret X (Or.inl rfl) hP hS dX8_readCompare_71 h
      · have h := ifn c_15 h
        refine lv_iconst (v := 0) hx hb dX8_readCompare_47 (by decide) ?_
        exact r_zret X (Or.inl rfl) hP hS dX8_readCompare_48 h
  · have h := ifp c_7 h
    refine lv_iconst (v := 0) hx hb dX8_readCompare_17 (by decide) ?_
    exact r_zret X (Or.inl rfl) hP hS dX8_readCompare_18 h

def fX8_readInner (rec : Nat → Int32 → Mm → Option (Int32 × Mm)) (i : Nat) (a1 : Int32) (m : Mm) : Option (Int32 × Mm) := (if a1 < 3 then bd (fX8_next i m) fun r_2 m_3 => bd (rec i (a1 + 1) m_3) fun r_5 m_6 => (if r_5 = 0 then some (0, m_6) else gx (m_6 (rp i 0) 12) 201 ((if (m_6 (rp i 8) (ix (m_6 (rp i 0) 12))) = 297 then bd (fX8_next i m_6) fun r_11 m_12 => some (1, m_12) else some (0, m_6)))) else some (0, m))
set_option maxHeartbeats 4000000 in
set_option maxRecDepth 100000 in
theorem tX8_readInner {l : Launch} {D : va_G} {cA : Nat → ClassId} {A : Nat → Nat} {Fr Lr : Nat} (hI : InjA cN A) {i : Nat} (hi : i < 3) {rec : Nat → Int32 → Mm → Option (Int32 × Mm)} (hrec : ∀ (i : Nat) (hi : i < 3) (a1 : Int32) (m : Mm) (r : Int32) (m' : Mm), rec i a1 m = some (r, m') → Met0 l yX8_readAny cX8_readAny 3 (some .boolean) { frames := Fr, cells := 0, slots := 0, locals := Lr } cLay cN D cA A [.ref (A (rp i 0)), .int a1] m (some (.int r)) m') {a1 : Int32} {m m' : Mm} {r : Int32} (h : fX8_readInner rec i a1 m = some (r, m')) : Met0 l yX8_readInner cX8_readInner 2 (some .boolean) { frames := Fr + 1, cells := 0, slots := 0, locals := Lr + 22 } cLay cN D cA A [.ref (A (rp i 0)), .int a1] m (some (.int r)) m' := by
  refine met0_of (by decide) (Nat.le_of_ble_eq_true rfl) hI ?_
  intro p e s m0 below meth c ls X hinit hP hS hl
  generalize ([.ref (A (rp i 0)), .int a1] : List Value).toArray = args at X ⊢
  have hl : lv_has ls 2 [(0, .ref (A (rp i 0))), (1, .int a1)] := hl
  have X : CX cLay cN D cA A p s m0 args meth c "BenchTowels$Rules" cX8_readInner 2 (some .boolean) := X
  have hx := X.1
  have hb := X.2.1
  have hml := X.2.2.1
  have hown := X.2.2.2.1
  have hts := X.2.2.2.2.1
  have hF := X.2.2.2.2.2.2.2.2.1
  rewrite [fX8_readInner] at h
  refine lv_iload_n hx hb dX8_readInner_0 rfl (lv_at hl 1 rfl) ?_
  refine lv_iconst (v := 3) hx hb dX8_readInner_1 (by decide) ?_
  refine lv_icmp_lt (tgt := 7) hx hb dX8_readInner_2 (by decide) (fun c_1 => ?_) (fun c_1 => ?_)
  · have h := ifp c_1 h
    refine lv_aload_n hx hb dX8_readInner_7 rfl (lv_at hl 0 rfl) ?_
    obtain ⟨r_2, m_3, hc_4, h⟩ := bd_some h
    refine c_V (rest := []) X hP hS (tX8_next hI hi hc_4) (lt_r hi (by decide)) (L_rules hi _) rfl wt_3_168 wt_3_170 ws_1_9 wt_1_2 wt_3_171 ⟨rfl, hy_X8_next⟩ ⟨rfl, rfl⟩ ⟨by dsimp only; omega, by dsimp only; omega⟩ rfl hl.1 rfl (Nat.le_of_ble_eq_true rfl) dX8_readInner_8 rfl (fun H locs hP hS => ?_)
    refine lv_aload_n hx hb dX8_readInner_11 rfl (lv_at hl 0 rfl) ?_
    refine lv_iload_n hx hb dX8_readInner_12 rfl (lv_at hl 1 rfl) ?_
    refine lv_iconst (v := 1) hx hb dX8_readInner_13 (by decide) ?_
    refine lv_iadd hx hb dX8_readInner_14 ?_
    obtain ⟨r_5, m_6, hc_7, h⟩ := bd_some h
    refine c_V (rest := []) X hP hS (hrec i hi (a1 + 1) _ _ _ hc_7) (lt_r hi (by decide)) (L_rules hi _) rfl wt_3_172 wt_3_174 ws_1_10 wt_1_2 wt_3_175 ⟨rfl, hy_X8_readAny⟩ ⟨rfl, rfl⟩ ⟨by dsimp only; omega, by dsimp only; omega⟩ rfl hl.1 rfl (Nat.le_of_ble_eq_true rfl) dX8_readInner_15 rfl (fun H locs hP hS => ?_)
    refine lv_if_eq (tgt := 36) hx hb dX8_readInner_18 (by decide) (fun c_8 => ?_) (fun c_8 => ?_)
    · have h := ifp c_8 h
      refine lv_iconst (v := 0) hx hb dX8_readInner_36 (by decide) ?_
      exact r_zret X (Or.inl rfl) hP hS dX8_readInner_37 h
    · have h := ifn c_8 h
      refine lv_aload_n hx hb dX8_readInner_21 rfl (lv_at hl 0 rfl) ?_
      refine r_get kc_8 10 X hP (lt_r hi (by decide)) (L_rules hi _) (by decide) rfl wt_1_46 dX8_readInner_22 ?_
      refine lv_aload_n hx hb dX8_readInner_25 rfl (lv_at hl 0 rfl) ?_
      refine r_get kc_8 12 X hP (lt_r hi (by decide)) (L_rules hi _) (by decide) rfl wt_1_48 dX8_readInner_26 ?_
      obtain ⟨hin_9, h⟩ := gx_some h
      refine r_iald X hP (lt_r hi (by decide)) ((La_r_8 hi) _) hin_9 rfl dX8_readInner_29 ?_
      refine lv_sipush (v := 297) hx hb dX8_readInner_30 (by decide) ?_
      refine lv_icmp_eq (tgt := 38) hx hb dX8_readInner_33 (by decide) (fun c_10 => ?_) (fun c_10 => ?_)
      · have h := ifp c_10 h
        refine lv_aload_n hx hb dX8_readInner_38 rfl (lv_at hl 0 rfl) ?_
        obtain ⟨r_11, m_12, hc_13, h⟩ := bd_some h
        refine c_V (rest := []) X hP hS (tX8_next hI hi hc_13) (lt_r hi (by decide)) (L_rules hi _) rfl wt_3_168 wt_3_170 ws_1_9 wt_1_2 wt_3_171 ⟨rfl, hy_X8_next⟩ ⟨rfl, rfl⟩ ⟨by dsimp only; omega, by dsimp only; omega⟩ rfl hl.1 rfl (Nat.le_of_ble_eq_true rfl) dX8_readInner_39 rfl (fun H locs hP hS => ?_)
        refine lv_iconst (v := 1) hx hb dX8_readInner_42 (by decide) ?_
        exact r_zret X (Or.inr rfl) hP hS dX8_readInner_43 h
      · have h := ifn c_10 h
        refine lv_iconst (v := 0) hx hb dX8_readInner_36 (by decide) ?_
        exact r_zret X (Or.inl rfl) hP hS dX8_readInner_37 h
  · have h := ifn c_1 h
    refine lv_iconst (v := 0) hx hb dX8_readInner_5 (by decide) ?_
    exact r_zret X (Or.inl rfl) hP hS dX8_readInner_6 h

def fX8_readOne_72 (rec : Nat → Int32 → Mm → Option (Int32 × Mm)) (i : Nat) (x2 : Int32) (s0 : Int32) (m : Mm) : Option (Int32 × Mm) := (if s0 = 0 then gb s0 (some (s0, m)) else (if x2 = 0 then gb s0 (some (s0, m)) else bd (fX8_add i (12 : Int32) (0 : Int32) (0 : Int32) m) fun r_11 m_12 => gb s0 (some (s0, m_12))))
set_option maxHeartbeats 4000000 in
set_option maxRecDepth 100000 in
theorem tX8_readOne_72 {Fr Lr : Nat} (hI : InjA cN A) {i : Nat} (hi : i < 3) {rec : Nat → Int32 → Mm → Option (Int32 × Mm)} (hrec : ∀ (i : Nat) (hi : i < 3) (a1 : Int32) (m : Mm) (r : Int32) (m' : Mm), rec i a1 m = some (r, m') → Met0 l yX8_readAny cX8_readAny 3 (some .boolean) { frames := Fr, cells := 0, slots := 0, locals := Lr } cLay cN D cA A [.ref (A (rp i 0)), .int a1] m (some (.int r)) m') {r : Int32} {m' : Mm} (X : CX cLay cN D cA A p s m0 args meth c "BenchTowels$Rules" cX8_readOne 4 (some .boolean)) : ∀ (x2 : Int32) (s0 : Int32) (m : Mm) (H : Heap) (locs : List Loc) (ls : Array Slot), fX8_readOne_72 rec i x2 s0 m = some (r, m') → va_P D vwCl (wsOf cLay cN cA A m) H → va_S (AW cN A) s.heap H locs → lv_has ls 4 [(0, .ref (A (rp i 0))), (2, .int x2)] → W p l e { frames := Fr + 2, cells := 0, slots := 0, locals := Lr + 46 } s m0 args below meth c H locs 0 0 (ZR below args s cLay cN D cA A (some (.int r)) m') (F0 m0 72 ls [.int s0]) := by
  have hx := X.1
  have hb := X.2.1
  have hml := X.2.2.1
  have hown := X.2.2.2.1
  have hts := X.2.2.2.2.1
  have hF := X.2.2.2.2.2.2.2.2.1
  intro x2 s0 m H locs ls h hP hS hl
  rewrite [fX8_readOne_72] at h
  refine lv_istore_n (lv' := [(3, .int s0), (0, .ref (A (rp i 0))), (2, .int x2)]) hx hb dX8_readOne_72 rfl hl (by decide) rfl (fun ls hl => ?_)
  refine lv_iload_n hx hb dX8_readOne_73 rfl (lv_at hl 0 rfl) ?_
  refine lv_if_eq (tgt := 89) hx hb dX8_readOne_74 (by decide) (fun c_7 => ?_) (fun c_7 => ?_)
  · have h := ifp c_7 h
    refine lv_iload_n hx hb dX8_readOne_89 rfl (lv_at hl 0 rfl) ?_
    obtain ⟨hz_8, h⟩ := gb_some h
    exact r_zret X hz_8 hP hS dX8_readOne_90 h
  · have h := ifn c_7 h
    refine lv_iload_n hx hb dX8_readOne_77 rfl (lv_at hl 2 rfl) ?_
    refine lv_if_eq (tgt := 89) hx hb dX8_readOne_78 (by decide) (fun c_9 => ?_) (fun c_9 => ?_)
    · have h := ifp c_9 h
      refine lv_iload_n hx hb dX8_readOne_89 rfl (lv_at hl 0 rfl) ?_
      obtain ⟨hz_10, h⟩ := gb_some h
      exact r_zret X hz_10 hP hS dX8_readOne_90 h
    · have h := ifn c_9 h
      refine lv_aload_n hx hb dX8_readOne_81 rfl (lv_at hl 1 rfl) ?_
      refine lv_bipush (v := 12) hx hb dX8_readOne_82 (by decide) ?_
      refine lv_iconst (v := 0) hx hb dX8_readOne_84 (by decide) ?_
      refine lv_iconst (v := 0) hx hb dX8_readOne_85 (by decide) ?_
      obtain ⟨r_11, m_12, hc_13, h⟩ := bd_some h
      refine c_V (rest := []) X hP hS (tX8_add hI hi hc_13) (lt_r hi (by decide)) (L_rules hi _) rfl wt_3_198 wt_3_200 ws_1_15 wt_1_2 wt_3_201 ⟨rfl, hy_X8_add⟩ ⟨rfl, rfl⟩ ⟨by dsimp only; omega, by dsimp only; omega⟩ rfl hl.1 rfl (Nat.le_of_ble_eq_true rfl) dX8_readOne_86 rfl (fun H locs hP hS => ?_)
      refine lv_iload_n hx hb dX8_readOne_89 rfl (lv_at hl 0 rfl) ?_
      obtain ⟨hz_14, h⟩ := gb_some h
      exact r_zret X hz_14 hP hS dX8_readOne_90 h

def fX8_readOne_45 (rec : Nat → Int32 → Mm → Option (Int32 × Mm)) (i : Nat) (x1 : Int32) (x2 : Int32) (m : Mm) : Option (Int32 × Mm) := gx (m (rp i 0) 12) 201 ((if (m (rp i 8) (ix (m (rp i 0) 12))) = 296 then bd (fX8_readInner rec i x1 m) fun r_15 m_16 => (fX8_readOne_72 rec i x2 r_15 m_16) else bd (fX8_readCompare i m) fun r_4 m_5 => (fX8_readOne_72 rec i x2 r_4 m_5)))
set_option maxHeartbeats 4000000 in
set_option maxRecDepth 100000 in
theorem tX8_readOne_45 {Fr Lr : Nat} (hI : InjA cN A) {i : Nat} (hi : i < 3) {rec : Nat → Int32 → Mm → Option (Int32 × Mm)} (hrec : ∀ (i : Nat) (hi : i < 3) (a1 : Int32) (m : Mm) (r : Int32) (m' : Mm), rec i a1 m = some (r, m') → Met0 l yX8_readAny cX8_readAny 3 (some .boolean) { frames := Fr, cells := 0, slots := 0, locals := Lr } cLay cN D cA A [.ref (A (rp i 0)), .int a1] m (some (.int r)) m') {r : Int32} {m' : Mm} (X : CX cLay cN D cA A p s m0 args meth c "BenchTowels$Rules" cX8_readOne 4 (some .boolean)) : ∀ (x1 : Int32) (x2 : Int32) (m : Mm) (H : Heap) (locs : List Loc) (ls : Array Slot), fX8_readOne_45 rec i x1 x2 m = some (r, m') → va_P D vwCl (wsOf cLay cN cA A m) H → va_S (AW cN A) s.heap H locs → lv_has ls 4 [(0, .ref (A (rp i 0))), (1, .int x1), (2, .int x2)] → W p l e { frames := Fr + 2, cells := 0, slots := 0, locals := Lr + 46 } s m0 args below meth c H locs 0 0 (ZR below args s cLay cN D cA A (some (.int r)) m') (F0 m0 45 ls []) := by
  have hx := X.1
  have hb := X.2.1
  have hml := X.2.2.1
  have hown := X.2.2.2.1
  have hts := X.2.2.2.2.1
  have hF := X.2.2.2.2.2.2.2.2.1
  intro x1 x2 m H locs ls h hP hS hl
  rewrite [fX8_readOne_45] at h
  refine lv_aload_n hx hb dX8_readOne_45 rfl (lv_at hl 0 rfl) ?_
  refine r_get kc_8 10 X hP (lt_r hi (by decide)) (L_rules hi _) (by decide) rfl wt_1_46 dX8_readOne_46 ?_
  refine lv_aload_n hx hb dX8_readOne_49 rfl (lv_at hl 0 rfl) ?_
  refine r_get kc_8 12 X hP (lt_r hi (by decide)) (L_rules hi _) (by decide) rfl wt_1_48 dX8_readOne_50 ?_
  obtain ⟨hin_2, h⟩ := gx_some h
  refine r_iald X hP (lt_r hi (by decide)) ((La_r_8 hi) _) hin_2 rfl dX8_readOne_53 ?_
  refine lv_sipush (v := 296) hx hb dX8_readOne_54 (by decide) ?_
  refine lv_icmp_ne (tgt := 68) hx hb dX8_readOne_57 (by decide) (fun c_3 => ?_) (fun c_3 => ?_)
  · have h := ifn c_3 h
    refine lv_aload_n hx hb dX8_readOne_68 rfl (lv_at hl 0 rfl) ?_
    obtain ⟨r_4, m_5, hc_6, h⟩ := bd_some h
    refine c_V (rest := []) X hP hS (tX8_readCompare hI hi hc_6) (lt_r hi (by decide)) (L_rules hi _) rfl wt_3_188 wt_3_190 ws_1_14 wt_1_2 wt_3_191 ⟨rfl, hy_X8_readCompare⟩ ⟨rfl, rfl⟩ ⟨by dsimp only; omega, by dsimp only; omega⟩ rfl hl.1 rfl (Nat.le_of_ble_eq_true rfl) dX8_readOne_69 rfl (fun H locs hP hS => ?_)
    exact tX8_readOne_72 hI hi hrec  X x2 r_4 m_5 _ _ _  h hP hS (lv_sub hl [0, 2] rfl)
  · have h := ifp c_3 h
    refine lv_aload_n hx hb dX8_readOne_60 rfl (lv_at hl 0 rfl) ?_
    refine lv_iload_n hx hb dX8_readOne_61 rfl (lv_at hl 1 rfl) ?_
    obtain ⟨r_15, m_16, hc_17, h⟩ := bd_some h
    refine c_V (rest := []) X hP hS (tX8_readInner hI hi hrec hc_17) (lt_r hi (by decide)) (L_rules hi _) rfl wt_3_184 wt_3_186 ws_1_13 wt_1_2 wt_3_187 ⟨rfl, hy_X8_readInner⟩ ⟨rfl, rfl⟩ ⟨by dsimp only; omega, by dsimp only; omega⟩ rfl hl.1 rfl (Nat.le_of_ble_eq_true rfl) dX8_readOne_62 rfl (fun H locs hP hS => ?_)
    refine lv_goto (tgt := 72) hx hb dX8_readOne_65 (by decide) ?_
    exact tX8_readOne_72 hI hi hrec  X x2 r_15 m_16 _ _ _  h hP hS (lv_sub hl [0, 2] rfl)

def fX8_readOne_34 (rec : Nat → Int32 → Mm → Option (Int32 × Mm)) (K4 : Int32 → Int32 → Int32 → Mm → Option (Int32 × Mm)) (i : Nat) (x1 : Int32) (x3 : Int32) (s0 : Int32) (m : Mm) : Option (Int32 × Mm) := bd (fX8_next i m) fun r_21 m_22 => lt ((x3 : Int32) + 1) fun x3_24 => (K4 x1 s0 x3_24 m_22)
set_option maxHeartbeats 4000000 in
set_option maxRecDepth 100000 in
theorem tX8_readOne_34 {Fr Lr : Nat} (hI : InjA cN A) {i : Nat} (hi : i < 3) {rec : Nat → Int32 → Mm → Option (Int32 × Mm)} (hrec : ∀ (i : Nat) (hi : i < 3) (a1 : Int32) (m : Mm) (r : Int32) (m' : Mm), rec i a1 m = some (r, m') → Met0 l yX8_readAny cX8_readAny 3 (some .boolean) { frames := Fr, cells := 0, slots := 0, locals := Lr } cLay cN D cA A [.ref (A (rp i 0)), .int a1] m (some (.int r)) m') {r : Int32} {m' : Mm} {K4 : Int32 → Int32 → Int32 → Mm → Option (Int32 × Mm)} (hK4 : ∀ (x1 : Int32) (x2 : Int32) (x3 : Int32) (m : Mm) (H : Heap) (locs : List Loc) (ls : Array Slot), K4 x1 x2 x3 m = some (r, m') → va_P D vwCl (wsOf cLay cN cA A m) H → va_S (AW cN A) s.heap H locs → lv_has ls 4 [(0, .ref (A (rp i 0))), (1, .int x1), (2, .int x2), (3, .int x3)] → W p l e { frames := Fr + 2, cells := 0, slots := 0, locals := Lr + 46 } s m0 args below meth c H locs 0 0 (ZR below args s cLay cN D cA A (some (.int r)) m') (F0 m0 4 ls [])) (X : CX cLay cN D cA A p s m0 args meth c "BenchTowels$Rules" cX8_readOne 4 (some .boolean)) : ∀ (x1 : Int32) (x3 : Int32) (s0 : Int32) (m : Mm) (H : Heap) (locs : List Loc) (ls : Array Slot), fX8_readOne_34 rec K4 i x1 x3 s0 m = some (r, m') → va_P D vwCl (wsOf cLay cN cA A m) H → va_S (AW cN A) s.heap H locs → lv_has ls 4 [(0, .ref (A (rp i 0))), (1, .int x1), (3, .int x3)] → W p l e { frames := Fr + 2, cells := 0, slots := 0, locals := Lr + 46 } s m0 args below meth c H locs 0 0 (ZR below args s cLay cN D cA A (some (.int r)) m') (F0 m0 34 ls [.int s0]) := by
  have hx := X.1
  have hb := X.2.1
  have hml := X.2.2.1
  have hown := X.2.2.2.1
  have hts := X.2.2.2.2.1
  have hF := X.2.2.2.2.2.2.2.2.1
  intro x1 x3 s0 m H locs ls h hP hS hl
  rewrite [fX8_readOne_34] at h
  refine lv_istore_n (lv' := [(2, .int s0), (0, .ref (A (rp i 0))), (1, .int x1), (3, .int x3)]) hx hb dX8_readOne_34 rfl hl (by decide) rfl (fun ls hl => ?_)
  refine lv_aload_n hx hb dX8_readOne_35 rfl (lv_at hl 1 rfl) ?_
  obtain ⟨r_21, m_22, hc_23, h⟩ := bd_some h
  refine c_V (rest := []) X hP hS (tX8_next hI hi hc_23) (lt_r hi (by decide)) (L_rules hi _) rfl wt_3_168 wt_3_170 ws_1_9 wt_1_2 wt_3_171 ⟨rfl, hy_X8_next⟩ ⟨rfl, rfl⟩ ⟨by dsimp only; omega, by dsimp only; omega⟩ rfl hl.1 rfl (Nat.le_of_ble_eq_true rfl) dX8_readOne_36 rfl (fun H locs hP hS => ?_)
  obtain ⟨x3_24, ex_25, h⟩ := lt_some h
  refine lv_iinc (v := x3_24) (lv' := [(3, .int x3_24), (2, .int s0), (0, .ref (A (rp i 0))), (1, .int x1)]) hx hb dX8_readOne_39 hl (k := 3) rfl (by rw [ex_25]; rfl) (by decide) rfl (fun ls hl => ?_)
  refine lv_goto (tgt := 4) hx hb dX8_readOne_42 (by decide) ?_
  exact hK4 x1 s0 x3_24 m_22 _ _ _  h hP hS (lv_sub hl [2, 3, 1, 0] rfl)

def fX8_readOne_4 (rec : Nat → Int32 → Mm → Option (Int32 × Mm)) (i : Nat) : Nat → Int32 → Int32 → Int32 → Mm → Option (Int32 × Mm)
  | 0, _, _, _, _ => none
  | n + 1, x1, x2, x3, m => (if (200 : Int32) ≤ x3 then fX8_readOne_45 rec i x1 x2 m else gx (m (rp i 0) 12) 201 ((if (m (rp i 8) (ix (m (rp i 0) 12))) = 12 then (if x2 = 0 then (fX8_readOne_34 rec (fun x1 x2 x3 m => fX8_readOne_4 rec i n x1 x2 x3 m) i x1 x3 1 m) else (fX8_readOne_34 rec (fun x1 x2 x3 m => fX8_readOne_4 rec i n x1 x2 x3 m) i x1 x3 0 m)) else fX8_readOne_45 rec i x1 x2 m)))
set_option maxHeartbeats 4000000 in
set_option maxRecDepth 100000 in
theorem tX8_readOne_4 {Fr Lr : Nat} (hI : InjA cN A) {i : Nat} (hi : i < 3) {rec : Nat → Int32 → Mm → Option (Int32 × Mm)} (hrec : ∀ (i : Nat) (hi : i < 3) (a1 : Int32) (m : Mm) (r : Int32) (m' : Mm), rec i a1 m = some (r, m') → Met0 l yX8_readAny cX8_readAny 3 (some .boolean) { frames := Fr, cells := 0, slots := 0, locals := Lr } cLay cN D cA A [.ref (A (rp i 0)), .int a1] m (some (.int r)) m') {r : Int32} {m' : Mm} (X : CX cLay cN D cA A p s m0 args meth c "BenchTowels$Rules" cX8_readOne 4 (some .boolean)) : ∀ (n : Nat) (x1 : Int32) (x2 : Int32) (x3 : Int32) (m : Mm) (H : Heap) (locs : List Loc) (ls : Array Slot), fX8_readOne_4 rec i n x1 x2 x3 m = some (r, m') → va_P D vwCl (wsOf cLay cN cA A m) H → va_S (AW cN A) s.heap H locs → lv_has ls 4 [(0, .ref (A (rp i 0))), (1, .int x1), (2, .int x2), (3, .int x3)] → W p l e { frames := Fr + 2, cells := 0, slots := 0, locals := Lr + 46 } s m0 args below meth c H locs 0 0 (ZR below args s cLay cN D cA A (some (.int r)) m') (F0 m0 4 ls []) := by
  have hx := X.1
  have hb := X.2.1
  have hml := X.2.2.1
  have hown := X.2.2.2.1
  have hts := X.2.2.2.2.1
  have hF := X.2.2.2.2.2.2.2.2.1
  intro n
  induction n with
  | zero =>
    intro x1 x2 x3 m H locs ls h hP hS hl
    exact absurd h (by rewrite [fX8_readOne_4]; exact fun q => by cases q)
  | succ n ih =>
    intro x1 x2 x3 m H locs ls h hP hS hl
    rewrite [fX8_readOne_4] at h
    refine lv_iload_n hx hb dX8_readOne_4 rfl (lv_at hl 3 rfl) ?_
    refine lv_sipush (v := 200) hx hb dX8_readOne_5 (by decide) ?_
    refine lv_icmp_ge (tgt := 45) hx hb dX8_readOne_8 (by decide) (fun c_1 => ?_) (fun c_1 => ?_)
    · have h := ifp c_1 h
      exact tX8_readOne_45 hI hi hrec  X x1 x2 m _ _ _  h hP hS (lv_sub hl [0, 1, 2] rfl)
    · have h := ifn c_1 h
      refine lv_aload_n hx hb dX8_readOne_11 rfl (lv_at hl 0 rfl) ?_
      refine r_get kc_8 10 X hP (lt_r hi (by decide)) (L_rules hi _) (by decide) rfl wt_1_46 dX8_readOne_12 ?_
      refine lv_aload_n hx hb dX8_readOne_15 rfl (lv_at hl 0 rfl) ?_
      refine r_get kc_8 12 X hP (lt_r hi (by decide)) (L_rules hi _) (by decide) rfl wt_1_48 dX8_readOne_16 ?_
      obtain ⟨hin_18, h⟩ := gx_some h
      refine r_iald X hP (lt_r hi (by decide)) ((La_r_8 hi) _) hin_18 rfl dX8_readOne_19 ?_
      refine lv_bipush (v := 12) hx hb dX8_readOne_20 (by decide) ?_
      refine lv_icmp_ne (tgt := 45) hx hb dX8_readOne_22 (by decide) (fun c_19 => ?_) (fun c_19 => ?_)
      · have h := ifn c_19 h
        exact tX8_readOne_45 hI hi hrec  X x1 x2 m _ _ _  h hP hS (lv_sub hl [0, 1, 2] rfl)
      · have h := ifp c_19 h
        refine lv_iload_n hx hb dX8_readOne_25 rfl (lv_at hl 2 rfl) ?_
        refine lv_if_ne (tgt := 33) hx hb dX8_readOne_26 (by decide) (fun c_20 => ?_) (fun c_20 => ?_)
        · have h := ifn c_20 h
          refine lv_iconst (v := 0) hx hb dX8_readOne_33 (by decide) ?_
          exact tX8_readOne_34 hI hi hrec (fun x1 x2 x3 m H locs ls  h hP hS hl => ih x1 x2 x3 m H locs ls  h hP hS hl) X x1 x3 0 m _ _ _  h hP hS (lv_sub hl [0, 1, 3] rfl)
        · have h := ifp c_20 h
          refine lv_iconst (v := 1) hx hb dX8_readOne_29 (by decide) ?_
          refine lv_goto (tgt := 34) hx hb dX8_readOne_30 (by decide) ?_
          exact tX8_readOne_34 hI hi hrec (fun x1 x2 x3 m H locs ls  h hP hS hl => ih x1 x2 x3 m H locs ls  h hP hS hl) X x1 x3 1 m _ _ _  h hP hS (lv_sub hl [0, 1, 3] rfl)

def fX8_readOne (rec : Nat → Int32 → Mm → Option (Int32 × Mm)) (i : Nat) (a1 : Int32) (m : Mm) : Option (Int32 × Mm) := (fX8_readOne_4 rec i FL a1 0 0 m)
set_option maxHeartbeats 4000000 in
set_option maxRecDepth 100000 in
theorem tX8_readOne {l : Launch} {D : va_G} {cA : Nat → ClassId} {A : Nat → Nat} {Fr Lr : Nat} (hI : InjA cN A) {i : Nat} (hi : i < 3) {rec : Nat → Int32 → Mm → Option (Int32 × Mm)} (hrec : ∀ (i : Nat) (hi : i < 3) (a1 : Int32) (m : Mm) (r : Int32) (m' : Mm), rec i a1 m = some (r, m') → Met0 l yX8_readAny cX8_readAny 3 (some .boolean) { frames := Fr, cells := 0, slots := 0, locals := Lr } cLay cN D cA A [.ref (A (rp i 0)), .int a1] m (some (.int r)) m') {a1 : Int32} {m m' : Mm} {r : Int32} (h : fX8_readOne rec i a1 m = some (r, m')) : Met0 l yX8_readOne cX8_readOne 4 (some .boolean) { frames := Fr + 2, cells := 0, slots := 0, locals := Lr + 46 } cLay cN D cA A [.ref (A (rp i 0)), .int a1] m (some (.int r)) m' := by
  refine met0_of (by decide) (Nat.le_of_ble_eq_true rfl) hI ?_
  intro p e s m0 below meth c ls X hinit hP hS hl
  generalize ([.ref (A (rp i 0)), .int a1] : List Value).toArray = args at X ⊢
  have hl : lv_has ls 4 [(0, .ref (A (rp i 0))), (1, .int a1)] := hl
  have X : CX cLay cN D cA A p s m0 args meth c "BenchTowels$Rules" cX8_readOne 4 (some .boolean) := X
  have hx := X.1
  have hb := X.2.1
  have hml := X.2.2.1
  have hown := X.2.2.2.1
  have hts := X.2.2.2.2.1
  have hF := X.2.2.2.2.2.2.2.2.1
  rewrite [fX8_readOne] at h
  refine lv_iconst (v := 0) hx hb dX8_readOne_0 (by decide) ?_
  refine lv_istore_n (lv' := [(2, .int 0), (0, .ref (A (rp i 0))), (1, .int a1)]) hx hb dX8_readOne_1 rfl hl (by decide) rfl (fun ls hl => ?_)
  refine lv_iconst (v := 0) hx hb dX8_readOne_2 (by decide) ?_
  refine lv_istore_n (lv' := [(3, .int 0), (2, .int 0), (0, .ref (A (rp i 0))), (1, .int a1)]) hx hb dX8_readOne_3 rfl hl (by decide) rfl (fun ls hl => ?_)
  exact tX8_readOne_4 hI hi hrec  X FL a1 0 0 m _ _ _  h hP hS (lv_sub hl [2, 3, 1, 0] rfl)

def fX8_readAll_12 (rec : Nat → Int32 → Mm → Option (Int32 × Mm)) (i : Nat) : Nat → Int32 → Int32 → Mm → Option (Int32 × Mm)
  | 0, _, _, _ => none
  | n + 1, x1, x2, m => (if (200 : Int32) ≤ x2 then some (1, m) else gx (m (rp i 0) 12) 201 ((if (m (rp i 8) (ix (m (rp i 0) 12))) = 11 then bd (fX8_next i m) fun r_8 m_9 => bd (fX8_readOne rec i x1 m_9) fun r_11 m_12 => (if r_11 = 0 then some (0, m_12) else bd (fX8_add i (11 : Int32) (0 : Int32) (0 : Int32) m_12) fun r_15 m_16 => lt ((x2 : Int32) + 1) fun x2_18 => (fX8_readAll_12 rec i n x1 x2_18 m_16)) else some (1, m))))
set_option maxHeartbeats 4000000 in
set_option maxRecDepth 100000 in
theorem tX8_readAll_12 {Fr Lr : Nat} (hI : InjA cN A) {i : Nat} (hi : i < 3) {rec : Nat → Int32 → Mm → Option (Int32 × Mm)} (hrec : ∀ (i : Nat) (hi : i < 3) (a1 : Int32) (m : Mm) (r : Int32) (m' : Mm), rec i a1 m = some (r, m') → Met0 l yX8_readAny cX8_readAny 3 (some .boolean) { frames := Fr, cells := 0, slots := 0, locals := Lr } cLay cN D cA A [.ref (A (rp i 0)), .int a1] m (some (.int r)) m') {r : Int32} {m' : Mm} (X : CX cLay cN D cA A p s m0 args meth c "BenchTowels$Rules" cX8_readAll 3 (some .boolean)) : ∀ (n : Nat) (x1 : Int32) (x2 : Int32) (m : Mm) (H : Heap) (locs : List Loc) (ls : Array Slot), fX8_readAll_12 rec i n x1 x2 m = some (r, m') → va_P D vwCl (wsOf cLay cN cA A m) H → va_S (AW cN A) s.heap H locs → lv_has ls 3 [(0, .ref (A (rp i 0))), (1, .int x1), (2, .int x2)] → W p l e { frames := Fr + 3, cells := 0, slots := 0, locals := Lr + 69 } s m0 args below meth c H locs 0 0 (ZR below args s cLay cN D cA A (some (.int r)) m') (F0 m0 12 ls []) := by
  have hx := X.1
  have hb := X.2.1
  have hml := X.2.2.1
  have hown := X.2.2.2.1
  have hts := X.2.2.2.2.1
  have hF := X.2.2.2.2.2.2.2.2.1
  intro n
  induction n with
  | zero =>
    intro x1 x2 m H locs ls h hP hS hl
    exact absurd h (by rewrite [fX8_readAll_12]; exact fun q => by cases q)
  | succ n ih =>
    intro x1 x2 m H locs ls h hP hS hl
    rewrite [fX8_readAll_12] at h
    refine lv_iload_n hx hb dX8_readAll_12 rfl (lv_at hl 2 rfl) ?_
    refine lv_sipush (v := 200) hx hb dX8_readAll_13 (by decide) ?_
    refine lv_icmp_ge (tgt := 61) hx hb dX8_readAll_16 (by decide) (fun c_5 => ?_) (fun c_5 => ?_)
    · have h := ifp c_5 h
      refine lv_iconst (v := 1) hx hb dX8_readAll_61 (by decide) ?_
      exact r_zret X (Or.inr rfl) hP hS dX8_readAll_62 h
    · have h := ifn c_5 h
      refine lv_aload_n hx hb dX8_readAll_19 rfl (lv_at hl 0 rfl) ?_
      refine r_get kc_8 10 X hP (lt_r hi (by decide)) (L_rules hi _) (by decide) rfl wt_1_46 dX8_readAll_20 ?_
      refine lv_aload_n hx hb dX8_readAll_23 rfl (lv_at hl 0 rfl) ?_
      refine r_get kc_8 12 X hP (lt_r hi (by decide)) (L_rules hi _) (by decide) rfl wt_1_48 dX8_readAll_24 ?_
      obtain ⟨hin_6, h⟩ := gx_some h
      refine r_iald X hP (lt_r hi (by decide)) ((La_r_8 hi) _) hin_6 rfl dX8_readAll_27 ?_
      refine lv_bipush (v := 11) hx hb dX8_readAll_28 (by decide) ?_
      refine lv_icmp_ne (tgt := 61) hx hb dX8_readAll_30 (by decide) (fun c_7 => ?_) (fun c_7 => ?_)
      · have h := ifn c_7 h
        refine lv_iconst (v := 1) hx hb dX8_readAll_61 (by decide) ?_
        exact r_zret X (Or.inr rfl) hP hS dX8_readAll_62 h
      · have h := ifp c_7 h
        refine lv_aload_n hx hb dX8_readAll_33 rfl (lv_at hl 0 rfl) ?_
        obtain ⟨r_8, m_9, hc_10, h⟩ := bd_some h
        refine c_V (rest := []) X hP hS (tX8_next hI hi hc_10) (lt_r hi (by decide)) (L_rules hi _) rfl wt_3_168 wt_3_170 ws_1_9 wt_1_2 wt_3_171 ⟨rfl, hy_X8_next⟩ ⟨rfl, rfl⟩ ⟨by dsimp only; omega, by dsimp only; omega⟩ rfl hl.1 rfl (Nat.le_of_ble_eq_true rfl) dX8_readAll_34 rfl (fun H locs hP hS => ?_)
        refine lv_aload_n hx hb dX8_readAll_37 rfl (lv_at hl 0 rfl) ?_
        refine lv_iload_n hx hb dX8_readAll_38 rfl (lv_at hl 1 rfl) ?_
        obtain ⟨r_11, m_12, hc_13, h⟩ := bd_some h
        refine c_V (rest := []) X hP hS (tX8_readOne hI hi hrec hc_13) (lt_r hi (by decide)) (L_rules hi _) rfl wt_3_180 wt_3_182 ws_1_12 wt_1_2 wt_3_183 ⟨rfl, hy_X8_readOne⟩ ⟨rfl, rfl⟩ ⟨by dsimp only; omega, by dsimp only; omega⟩ rfl hl.1 rfl (Nat.le_of_ble_eq_true rfl) dX8_readAll_39 rfl (fun H locs hP hS => ?_)
        refine lv_if_ne (tgt := 47) hx hb dX8_readAll_42 (by decide) (fun c_14 => ?_) (fun c_14 => ?_)
        · have h := ifn c_14 h
          refine lv_aload_n hx hb dX8_readAll_47 rfl (lv_at hl 0 rfl) ?_
          refine lv_bipush (v := 11) hx hb dX8_readAll_48 (by decide) ?_
          refine lv_iconst (v := 0) hx hb dX8_readAll_50 (by decide) ?_
          refine lv_iconst (v := 0) hx hb dX8_readAll_51 (by decide) ?_
          obtain ⟨r_15, m_16, hc_17, h⟩ := bd_some h
          refine c_V (rest := []) X hP hS (tX8_add hI hi hc_17) (lt_r hi (by decide)) (L_rules hi _) rfl wt_3_198 wt_3_200 ws_1_15 wt_1_2 wt_3_201 ⟨rfl, hy_X8_add⟩ ⟨rfl, rfl⟩ ⟨by dsimp only; omega, by dsimp only; omega⟩ rfl hl.1 rfl (Nat.le_of_ble_eq_true rfl) dX8_readAll_52 rfl (fun H locs hP hS => ?_)
          obtain ⟨x2_18, ex_19, h⟩ := lt_some h
          refine lv_iinc (v := x2_18) (lv' := [(2, .int x2_18), (0, .ref (A (rp i 0))), (1, .int x1)]) hx hb dX8_readAll_55 hl (k := 2) rfl (by rw [ex_19]; rfl) (by decide) rfl (fun ls hl => ?_)
          refine lv_goto (tgt := 12) hx hb dX8_readAll_58 (by decide) ?_
          exact ih x1 x2_18 m_16 _ _ _  h hP hS (lv_sub hl [1, 2, 0] rfl)
        · have h := ifp c_14 h
          refine lv_iconst (v := 0) hx hb dX8_readAll_45 (by decide) ?_
          exact r_zret X (Or.inl rfl) hP hS dX8_readAll_46 h

def fX8_readAll (rec : Nat → Int32 → Mm → Option (Int32 × Mm)) (i : Nat) (a1 : Int32) (m : Mm) : Option (Int32 × Mm) := bd (fX8_readOne rec i a1 m) fun r_1 m_2 => (if r_1 = 0 then some (0, m_2) else (fX8_readAll_12 rec i FL a1 0 m_2))
set_option maxHeartbeats 4000000 in
set_option maxRecDepth 100000 in
theorem tX8_readAll {l : Launch} {D : va_G} {cA : Nat → ClassId} {A : Nat → Nat} {Fr Lr : Nat} (hI : InjA cN A) {i : Nat} (hi : i < 3) {rec : Nat → Int32 → Mm → Option (Int32 × Mm)} (hrec : ∀ (i : Nat) (hi : i < 3) (a1 : Int32) (m : Mm) (r : Int32) (m' : Mm), rec i a1 m = some (r, m') → Met0 l yX8_readAny cX8_readAny 3 (some .boolean) { frames := Fr, cells := 0, slots := 0, locals := Lr } cLay cN D cA A [.ref (A (rp i 0)), .int a1] m (some (.int r)) m') {a1 : Int32} {m m' : Mm} {r : Int32} (h : fX8_readAll rec i a1 m = some (r, m')) : Met0 l yX8_readAll cX8_readAll 3 (some .boolean) { frames := Fr + 3, cells := 0, slots := 0, locals := Lr + 69 } cLay cN D cA A [.ref (A (rp i 0)), .int a1] m (some (.int r)) m' := by
  refine met0_of (by decide) (Nat.le_of_ble_eq_true rfl) hI ?_
  intro p e s m0 below meth c ls X hinit hP hS hl
  generalize ([.ref (A (rp i 0)), .int a1] : List Value).toArray = args at X ⊢
  have hl : lv_has ls 3 [(0, .ref (A (rp i 0))), (1, .int a1)] := hl
  have X : CX cLay cN D cA A p s m0 args meth c "BenchTowels$Rules" cX8_readAll 3 (some .boolean) := X
  have hx := X.1
  have hb := X.2.1
  have hml := X.2.2.1
  have hown := X.2.2.2.1
  have hts := X.2.2.2.2.1
  have hF := X.2.2.2.2.2.2.2.2.1
  rewrite [fX8_readAll] at h
  refine lv_aload_n hx hb dX8_readAll_0 rfl (lv_at hl 0 rfl) ?_
  refine lv_iload_n hx hb dX8_readAll_1 rfl (lv_at hl 1 rfl) ?_
  obtain ⟨r_1, m_2, hc_3, h⟩ := bd_some h
  refine c_V (rest := []) X hP hS (tX8_readOne hI hi hrec hc_3) (lt_r hi (by decide)) (L_rules hi _) rfl wt_3_180 wt_3_182 ws_1_12 wt_1_2 wt_3_183 ⟨rfl, hy_X8_readOne⟩ ⟨rfl, rfl⟩ ⟨by dsimp only; omega, by dsimp only; omega⟩ rfl hl.1 rfl (Nat.le_of_ble_eq_true rfl) dX8_readAll_2 rfl (fun H locs hP hS => ?_)
  refine lv_if_ne (tgt := 10) hx hb dX8_readAll_5 (by decide) (fun c_4 => ?_) (fun c_4 => ?_)
  · have h := ifn c_4 h
    refine lv_iconst (v := 0) hx hb dX8_readAll_10 (by decide) ?_
    refine lv_istore_n (lv' := [(2, .int 0), (0, .ref (A (rp i 0))), (1, .int a1)]) hx hb dX8_readAll_11 rfl hl (by decide) rfl (fun ls hl => ?_)
    exact tX8_readAll_12 hI hi hrec  X FL a1 0 m_2 _ _ _  h hP hS (lv_sub hl [1, 2, 0] rfl)
  · have h := ifp c_4 h
    refine lv_iconst (v := 0) hx hb dX8_readAll_8 (by decide) ?_
    exact r_zret X (Or.inl rfl) hP hS dX8_readAll_9 h

def fX8_readAny_12 (rec : Nat → Int32 → Mm → Option (Int32 × Mm)) (i : Nat) : Nat → Int32 → Int32 → Mm → Option (Int32 × Mm)
  | 0, _, _, _ => none
  | n + 1, x1, x2, m => (if (200 : Int32) ≤ x2 then some (1, m) else gx (m (rp i 0) 12) 201 ((if (m (rp i 8) (ix (m (rp i 0) 12))) = 10 then bd (fX8_next i m) fun r_8 m_9 => bd (fX8_readAll rec i x1 m_9) fun r_11 m_12 => (if r_11 = 0 then some (0, m_12) else bd (fX8_add i (10 : Int32) (0 : Int32) (0 : Int32) m_12) fun r_15 m_16 => lt ((x2 : Int32) + 1) fun x2_18 => (fX8_readAny_12 rec i n x1 x2_18 m_16)) else some (1, m))))
set_option maxHeartbeats 4000000 in
set_option maxRecDepth 100000 in
theorem tX8_readAny_12 {Fr Lr : Nat} (hI : InjA cN A) {i : Nat} (hi : i < 3) {rec : Nat → Int32 → Mm → Option (Int32 × Mm)} (hrec : ∀ (i : Nat) (hi : i < 3) (a1 : Int32) (m : Mm) (r : Int32) (m' : Mm), rec i a1 m = some (r, m') → Met0 l yX8_readAny cX8_readAny 3 (some .boolean) { frames := Fr, cells := 0, slots := 0, locals := Lr } cLay cN D cA A [.ref (A (rp i 0)), .int a1] m (some (.int r)) m') {r : Int32} {m' : Mm} (X : CX cLay cN D cA A p s m0 args meth c "BenchTowels$Rules" cX8_readAny 3 (some .boolean)) : ∀ (n : Nat) (x1 : Int32) (x2 : Int32) (m : Mm) (H : Heap) (locs : List Loc) (ls : Array Slot), fX8_readAny_12 rec i n x1 x2 m = some (r, m') → va_P D vwCl (wsOf cLay cN cA A m) H → va_S (AW cN A) s.heap H locs → lv_has ls 3 [(0, .ref (A (rp i 0))), (1, .int x1), (2, .int x2)] → W p l e { frames := Fr + 4, cells := 0, slots := 0, locals := Lr + 91 } s m0 args below meth c H locs 0 0 (ZR below args s cLay cN D cA A (some (.int r)) m') (F0 m0 12 ls []) := by
  have hx := X.1
  have hb := X.2.1
  have hml := X.2.2.1
  have hown := X.2.2.2.1
  have hts := X.2.2.2.2.1
  have hF := X.2.2.2.2.2.2.2.2.1
  intro n
  induction n with
  | zero =>
    intro x1 x2 m H locs ls h hP hS hl
    exact absurd h (by rewrite [fX8_readAny_12]; exact fun q => by cases q)
  | succ n ih =>
    intro x1 x2 m H locs ls h hP hS hl
    rewrite [fX8_readAny_12] at h
    refine lv_iload_n hx hb dX8_readAny_12 rfl (lv_at hl 2 rfl) ?_
    refine lv_sipush (v := 200) hx hb dX8_readAny_13 (by decide) ?_
    refine lv_icmp_ge (tgt := 61) hx hb dX8_readAny_16 (by decide) (fun c_5 => ?_) (fun c_5 => ?_)
    · have h := ifp c_5 h
      refine lv_iconst (v := 1) hx hb dX8_readAny_61 (by decide) ?_
      exact r_zret X (Or.inr rfl) hP hS dX8_readAny_62 h
    · have h := ifn c_5 h
      refine lv_aload_n hx hb dX8_readAny_19 rfl (lv_at hl 0 rfl) ?_
      refine r_get kc_8 10 X hP (lt_r hi (by decide)) (L_rules hi _) (by decide) rfl wt_1_46 dX8_readAny_20 ?_
      refine lv_aload_n hx hb dX8_readAny_23 rfl (lv_at hl 0 rfl) ?_
      refine r_get kc_8 12 X hP (lt_r hi (by decide)) (L_rules hi _) (by decide) rfl wt_1_48 dX8_readAny_24 ?_
      obtain ⟨hin_6, h⟩ := gx_some h
      refine r_iald X hP (lt_r hi (by decide)) ((La_r_8 hi) _) hin_6 rfl dX8_readAny_27 ?_
      refine lv_bipush (v := 10) hx hb dX8_readAny_28 (by decide) ?_
      refine lv_icmp_ne (tgt := 61) hx hb dX8_readAny_30 (by decide) (fun c_7 => ?_) (fun c_7 => ?_)
      · have h := ifn c_7 h
        refine lv_iconst (v := 1) hx hb dX8_readAny_61 (by decide) ?_
        exact r_zret X (Or.inr rfl) hP hS dX8_readAny_62 h
      · have h := ifp c_7 h
        refine lv_aload_n hx hb dX8_readAny_33 rfl (lv_at hl 0 rfl) ?_
        obtain ⟨r_8, m_9, hc_10, h⟩ := bd_some h
        refine c_V (rest := []) X hP hS (tX8_next hI hi hc_10) (lt_r hi (by decide)) (L_rules hi _) rfl wt_3_168 wt_3_170 ws_1_9 wt_1_2 wt_3_171 ⟨rfl, hy_X8_next⟩ ⟨rfl, rfl⟩ ⟨by dsimp only; omega, by dsimp only; omega⟩ rfl hl.1 rfl (Nat.le_of_ble_eq_true rfl) dX8_readAny_34 rfl (fun H locs hP hS => ?_)
        refine lv_aload_n hx hb dX8_readAny_37 rfl (lv_at hl 0 rfl) ?_
        refine lv_iload_n hx hb dX8_readAny_38 rfl (lv_at hl 1 rfl) ?_
        obtain ⟨r_11, m_12, hc_13, h⟩ := bd_some h
        refine c_V (rest := []) X hP hS (tX8_readAll hI hi hrec hc_13) (lt_r hi (by decide)) (L_rules hi _) rfl wt_3_176 wt_3_178 ws_1_11 wt_1_2 wt_3_179 ⟨rfl, hy_X8_readAll⟩ ⟨rfl, rfl⟩ ⟨by dsimp only; omega, by dsimp only; omega⟩ rfl hl.1 rfl (Nat.le_of_ble_eq_true rfl) dX8_readAny_39 rfl (fun H locs hP hS => ?_)
        refine lv_if_ne (tgt := 47) hx hb dX8_readAny_42 (by decide) (fun c_14 => ?_) (fun c_14 => ?_)
        · have h := ifn c_14 h
          refine lv_aload_n hx hb dX8_readAny_47 rfl (lv_at hl 0 rfl) ?_
          refine lv_bipush (v := 10) hx hb dX8_readAny_48 (by decide) ?_
          refine lv_iconst (v := 0) hx hb dX8_readAny_50 (by decide) ?_
          refine lv_iconst (v := 0) hx hb dX8_readAny_51 (by decide) ?_
          obtain ⟨r_15, m_16, hc_17, h⟩ := bd_some h
          refine c_V (rest := []) X hP hS (tX8_add hI hi hc_17) (lt_r hi (by decide)) (L_rules hi _) rfl wt_3_198 wt_3_200 ws_1_15 wt_1_2 wt_3_201 ⟨rfl, hy_X8_add⟩ ⟨rfl, rfl⟩ ⟨by dsimp only; omega, by dsimp only; omega⟩ rfl hl.1 rfl (Nat.le_of_ble_eq_true rfl) dX8_readAny_52 rfl (fun H locs hP hS => ?_)
          obtain ⟨x2_18, ex_19, h⟩ := lt_some h
          refine lv_iinc (v := x2_18) (lv' := [(2, .int x2_18), (0, .ref (A (rp i 0))), (1, .int x1)]) hx hb dX8_readAny_55 hl (k := 2) rfl (by rw [ex_19]; rfl) (by decide) rfl (fun ls hl => ?_)
          refine lv_goto (tgt := 12) hx hb dX8_readAny_58 (by decide) ?_
          exact ih x1 x2_18 m_16 _ _ _  h hP hS (lv_sub hl [1, 2, 0] rfl)
        · have h := ifp c_14 h
          refine lv_iconst (v := 0) hx hb dX8_readAny_45 (by decide) ?_
          exact r_zret X (Or.inl rfl) hP hS dX8_readAny_46 h

def fX8_readAny (rec : Nat → Int32 → Mm → Option (Int32 × Mm)) (i : Nat) (a1 : Int32) (m : Mm) : Option (Int32 × Mm) := bd (fX8_readAll rec i a1 m) fun r_1 m_2 => (if r_1 = 0 then some (0, m_2) else (fX8_readAny_12 rec i FL a1 0 m_2))
set_option maxHeartbeats 4000000 in
set_option maxRecDepth 100000 in
theorem tX8_readAny {l : Launch} {D : va_G} {cA : Nat → ClassId} {A : Nat → Nat} {Fr Lr : Nat} (hI : InjA cN A) {i : Nat} (hi : i < 3) {rec : Nat → Int32 → Mm → Option (Int32 × Mm)} (hrec : ∀ (i : Nat) (hi : i < 3) (a1 : Int32) (m : Mm) (r : Int32) (m' : Mm), rec i a1 m = some (r, m') → Met0 l yX8_readAny cX8_readAny 3 (some .boolean) { frames := Fr, cells := 0, slots := 0, locals := Lr } cLay cN D cA A [.ref (A (rp i 0)), .int a1] m (some (.int r)) m') {a1 : Int32} {m m' : Mm} {r : Int32} (h : fX8_readAny rec i a1 m = some (r, m')) : Met0 l yX8_readAny cX8_readAny 3 (some .boolean) { frames := Fr + 4, cells := 0, slots := 0, locals := Lr + 91 } cLay cN D cA A [.ref (A (rp i 0)), .int a1] m (some (.int r)) m' := by
  refine met0_of (by decide) (Nat.le_of_ble_eq_true rfl) hI ?_
  intro p e s m0 below meth c ls X hinit hP hS hl
  generalize ([.ref (A (rp i 0)), .int a1] : List Value).toArray = args at X ⊢
  have hl : lv_has ls 3 [(0, .ref (A (rp i 0))), (1, .int a1)] := hl
  have X : CX cLay cN D cA A p s m0 args meth c "BenchTowels$Rules" cX8_readAny 3 (some .boolean) := X
  have hx := X.1
  have hb := X.2.1
  have hml := X.2.2.1
  have hown := X.2.2.2.1
  have hts := X.2.2.2.2.1
  have hF := X.2.2.2.2.2.2.2.2.1
  rewrite [fX8_readAny] at h
  refine lv_aload_n hx hb dX8_readAny_0 rfl (lv_at hl 0 rfl) ?_
  refine lv_iload_n hx hb dX8_readAny_1 rfl (lv_at hl 1 rfl) ?_
  obtain ⟨r_1, m_2, hc_3, h⟩ := bd_some h
  refine c_V (rest := []) X hP hS (tX8_readAll hI hi hrec hc_3) (lt_r hi (by decide)) (L_rules hi _) rfl wt_3_176 wt_3_178 ws_1_11 wt_1_2 wt_3_179 ⟨rfl, hy_X8_readAll⟩ ⟨rfl, rfl⟩ ⟨by dsimp only; omega, by dsimp only; omega⟩ rfl hl.1 rfl (Nat.le_of_ble_eq_true rfl) dX8_readAny_2 rfl (fun H locs hP hS => ?_)
  refine lv_if_ne (tgt := 10) hx hb dX8_readAny_5 (by decide) (fun c_4 => ?_) (fun c_4 => ?_)
  · have h := ifn c_4 h
    refine lv_iconst (v := 0) hx hb dX8_readAny_10 (by decide) ?_
    refine lv_istore_n (lv' := [(2, .int 0), (0, .ref (A (rp i 0))), (1, .int a1)]) hx hb dX8_readAny_11 rfl hl (by decide) rfl (fun ls hl => ?_)
    exact tX8_readAny_12 hI hi hrec  X FL a1 0 m_2 _ _ _  h hP hS (lv_sub hl [1, 2, 0] rfl)
  · have h := ifp c_4 h
    refine lv_iconst (v := 0) hx hb dX8_readAny_8 (by decide) ?_
    exact r_zret X (Or.inl rfl) hP hS dX8_readAny_9 h
def rX8_readAny : Nat → Nat → Int32 → Mm → Option (Int32 × Mm)
  | 0, _, _, _ => none
  | n + 1, i, a1, m => fX8_readAny (rX8_readAny n) i a1 m
theorem tr0X8_readAny {l : Launch} {D : va_G} {cA : Nat → ClassId} {A : Nat → Nat} (hI : InjA cN A) : ∀ (n : Nat) (i : Nat) (hi : i < 3) (a1 : Int32) (m : Mm) (r : Int32) (m' : Mm), rX8_readAny n i a1 m = some (r, m') → Met0 l yX8_readAny cX8_readAny 3 (some .boolean) { frames := 4 * n, cells := 0, slots := 0, locals := 91 * n } cLay cN D cA A [.ref (A (rp i 0)), .int a1] m (some (.int r)) m' := by
  intro n
  induction n with
  | zero =>
    intro i hi a1 m r m' h
    exact absurd h (by rewrite [rX8_readAny]; exact fun q => by cases q)
  | succ n ih =>
    intro i hi a1 m r m' h
    rewrite [rX8_readAny] at h
    exact tX8_readAny (Fr := 4 * n) (Lr := 91 * n) hI hi ih h
theorem trX8_readAny {l : Launch} {D : va_G} {cA : Nat → ClassId} {A : Nat → Nat} (hI : InjA cN A) {i : Nat} (hi : i < 3) (n : Nat) (a1 : Int32) (m : Mm) (r : Int32) (m' : Mm) (h : rX8_readAny n i a1 m = some (r, m')) : Met0 l yX8_readAny cX8_readAny 3 (some .boolean) { frames := 4 * n, cells := 0, slots := 0, locals := 91 * n } cLay cN D cA A [.ref (A (rp i 0)), .int a1] m (some (.int r)) m' := tr0X8_readAny hI n i hi a1 m r m' h

end
