-- methods walked, by program (wip/whole/gen)
section
variable {p : Program} {l : Launch} {e : Env} {s : State} {m0 : MethodId} {args : Array Value} {below : List Frame} {meth : Method} {c : Code} {D : va_G} {cA : Nat → ClassId} {A : Nat → Nat}
def fX12_isIn (a1 : Int64) (a2 : Int64) (a3 : Int64) (m : Mm) : Option (Int32 × Mm) := (if (lg_cmp a1 a2) < 0 then some (0, m) else (if (0 : Int32) < (lg_cmp a1 a3) then some (0, m) else some (1, m)))
set_option maxHeartbeats 4000000 in
set_option maxRecDepth 100000 in
theorem tX12_isIn {l : Launch} {D : va_G} {cA : Nat → ClassId} {A : Nat → Nat} (hI : InjA rN A) {a1 : Int64} {a2 : Int64} {a3 : Int64} {m m' : Mm} {r : Int32} (h : fX12_isIn a1 a2 a3 m = some (r, m')) : Met0 l yX12_isIn cX12_isIn 6 (some .boolean) { frames := 0, cells := 0, slots := 0, locals := 0 } rLay rN D cA A [.long a1, .long a2, .long a3] m (some (.int r)) m' := by
  refine met0_of (by decide) (Nat.le_of_ble_eq_true rfl) hI ?_
  intro p e s m0 below meth c ls X hinit hP hS hl
  generalize ([.long a1, .long a2, .long a3] : List Value).toArray = args at X ⊢
  have hl : lv_has ls 6 [(0, .long a1), (2, .long a2), (4, .long a3)] := hl
  have X : CX rLay rN D cA A p s m0 args meth c "BenchTowelsModel" cX12_isIn 6 (some .boolean) := X
  have hx := X.1
  have hb := X.2.1
  have hml := X.2.2.1
  have hown := X.2.2.2.1
  have hts := X.2.2.2.2.1
  have hF := X.2.2.2.2.2.2.2.2.1
  rewrite [fX12_isIn] at h
  refine lv_lload_n hx hb dX12_isIn_0 rfl (lv_at hl 0 rfl) ?_
  refine lv_lload_n hx hb dX12_isIn_1 rfl (lv_at hl 1 rfl) ?_
  refine W.lcmp hx hb dX12_isIn_2 ?_
  refine lv_if_lt (tgt := 17) hx hb dX12_isIn_3 (by decide) (fun c_1 => ?_) (fun c_1 => ?_)
  · have h := ifp c_1 h
    refine lv_iconst (v := 0) hx hb dX12_isIn_17 (by decide) ?_
    exact r_zret X (Or.inl rfl) hP hS dX12_isIn_18 h
  · have h := ifn c_1 h
    refine lv_lload_n hx hb dX12_isIn_6 rfl (lv_at hl 0 rfl) ?_
    refine lv_lload hx hb dX12_isIn_7 (lv_at hl 2 rfl) ?_
    refine W.lcmp hx hb dX12_isIn_9 ?_
    refine lv_if_gt (tgt := 17) hx hb dX12_isIn_10 (by decide) (fun c_2 => ?_) (fun c_2 => ?_)
    · have h := ifp c_2 h
      refine lv_iconst (v := 0) hx hb dX12_isIn_17 (by decide) ?_
      exact r_zret X (Or.inl rfl) hP hS dX12_isIn_18 h
    · have h := ifn c_2 h
      refine lv_iconst (v := 1) hx hb dX12_isIn_13 (by decide) ?_
      refine lv_goto (tgt := 18) hx hb dX12_isIn_14 (by decide) ?_
      exact r_zret X (Or.inr rfl) hP hS dX12_isIn_18 h

def fX12_isOne (a1 : Int32) (m : Mm) : Option (Int32 × Mm) := (if a1 < 0 then some (0, m) else (if ((m 1 0) : Int32) ≤ a1 then some (0, m) else some (1, m)))
set_option maxHeartbeats 4000000 in
set_option maxRecDepth 100000 in
theorem tX12_isOne {l : Launch} {D : va_G} {cA : Nat → ClassId} {A : Nat → Nat} (hI : InjA rN A) {a1 : Int32} {m m' : Mm} {r : Int32} (h : fX12_isOne a1 m = some (r, m')) : Met0 l yX12_isOne cX12_isOne 2 (some .boolean) { frames := 0, cells := 0, slots := 0, locals := 0 } rLay rN D cA A [.ref (A 0), .int a1] m (some (.int r)) m' := by
  refine met0_of (by decide) (Nat.le_of_ble_eq_true rfl) hI ?_
  intro p e s m0 below meth c ls X hinit hP hS hl
  generalize ([.ref (A 0), .int a1] : List Value).toArray = args at X ⊢
  have hl : lv_has ls 2 [(0, .ref (A 0)), (1, .int a1)] := hl
  have X : CX rLay rN D cA A p s m0 args meth c "BenchTowelsModel" cX12_isOne 2 (some .boolean) := X
  have hx := X.1
  have hb := X.2.1
  have hml := X.2.2.1
  have hown := X.2.2.2.1
  have hts := X.2.2.2.2.1
  have hF := X.2.2.2.2.2.2.2.2.1
  rewrite [fX12_isOne] at h
  refine lv_iload_n hx hb dX12_isOne_0 rfl (lv_at hl 1 rfl) ?_
  refine lv_if_lt (tgt := 18) hx hb dX12_isOne_1 (by decide) (fun c_1 => ?_) (fun c_1 => ?_)
  · have h := ifp c_1 h
    refine lv_iconst (v := 0) hx hb dX12_isOne_18 (by decide) ?_
    exact r_zret X (Or.inl rfl) hP hS dX12_isOne_19 h
  · have h := ifn c_1 h
    refine lv_iload_n hx hb dX12_isOne_4 rfl (lv_at hl 1 rfl) ?_
    refine lv_aload_n hx hb dX12_isOne_5 rfl (lv_at hl 0 rfl) ?_
    refine r_get kc_12 0 X hP (by decide) (L_ref _) (by decide) rfl wt_5_172 dX12_isOne_6 ?_
    refine lv_iconst (v := 0) hx hb dX12_isOne_9 (by decide) ?_
    refine r_iald X hP (by decide) (Lr_1 _) (vpc (by decide)) ixc_0 dX12_isOne_10 ?_
    refine lv_icmp_ge (tgt := 18) hx hb dX12_isOne_11 (by decide) (fun c_2 => ?_) (fun c_2 => ?_)
    · have h := ifp c_2 h
      refine lv_iconst (v := 0) hx hb dX12_isOne_18 (by decide) ?_
      exact r_zret X (Or.inl rfl) hP hS dX12_isOne_19 h
    · have h := ifn c_2 h
      refine lv_iconst (v := 1) hx hb dX12_isOne_14 (by decide) ?_
      refine lv_goto (tgt := 19) hx hb dX12_isOne_15 (by decide) ?_
      exact r_zret X (Or.inr rfl) hP hS dX12_isOne_19 h

def fX12_its (a1 : Int32) (a2 : Int32) (m : Mm) : Option (Int32 × Mm) := gx (((8 : Int32) + ((5 : Int32) * a1)) + a2) 553 (some ((m 1 (ix (((8 : Int32) + ((5 : Int32) * a1)) + a2))), m))
set_option maxHeartbeats 4000000 in
set_option maxRecDepth 100000 in
theorem tX12_its {l : Launch} {D : va_G} {cA : Nat → ClassId} {A : Nat → Nat} (hI : InjA rN A) {a1 : Int32} {a2 : Int32} {m m' : Mm} {r : Int32} (h : fX12_its a1 a2 m = some (r, m')) : Met0 l yX12_its cX12_its 3 (some .int) { frames := 0, cells := 0, slots := 0, locals := 0 } rLay rN D cA A [.ref (A 0), .int a1, .int a2] m (some (.int r)) m' := by
  refine met0_of (by decide) (Nat.le_of_ble_eq_true rfl) hI ?_
  intro p e s m0 below meth c ls X hinit hP hS hl
  generalize ([.ref (A 0), .int a1, .int a2] : List Value).toArray = args at X ⊢
  have hl : lv_has ls 3 [(0, .ref (A 0)), (1, .int a1), (2, .int a2)] := hl
  have X : CX rLay rN D cA A p s m0 args meth c "BenchTowelsModel" cX12_its 3 (some .int) := X
  have hx := X.1
  have hb := X.2.1
  have hml := X.2.2.1
  have hown := X.2.2.2.1
  have hts := X.2.2.2.2.1
  have hF := X.2.2.2.2.2.2.2.2.1
  rewrite [fX12_its] at h
  refine lv_aload_n hx hb dX12_its_0 rfl (lv_at hl 0 rfl) ?_
  refine r_get kc_12 0 X hP (by decide) (L_ref _) (by decide) rfl wt_5_172 dX12_its_1 ?_
  refine lv_bipush (v := 8) hx hb dX12_its_4 (by decide) ?_
  refine lv_iconst (v := 5) hx hb dX12_its_6 (by decide) ?_
  refine lv_iload_n hx hb dX12_its_7 rfl (lv_at hl 1 rfl) ?_
  refine lv_imul hx hb dX12_its_8 ?_
  refine lv_iadd hx hb dX12_its_9 ?_
  refine lv_iload_n hx hb dX12_its_10 rfl (lv_at hl 2 rfl) ?_
  refine lv_iadd hx hb dX12_its_11 ?_
  obtain ⟨hin_1, h⟩ := gx_some h
  refine r_iald X hP (by decide) (Lr_1 _) hin_1 rfl dX12_its_12 ?_
  exact r_iret X hP hS dX12_its_13 h

def fX12_becomes (a1 : Int32) (a2 : Int32) (m : Mm) : Option (Int32 × Mm) := gx a1 553 (lt (m 1 (ix a1)) fun x3_2 => lt (up m 1 (ix a1) a2) fun m_4 => some (x3_2, m_4))
set_option maxHeartbeats 4000000 in
set_option maxRecDepth 100000 in
theorem tX12_becomes {l : Launch} {D : va_G} {cA : Nat → ClassId} {A : Nat → Nat} (hI : InjA rN A) {a1 : Int32} {a2 : Int32} {m m' : Mm} {r : Int32} (h : fX12_becomes a1 a2 m = some (r, m')) : Met0 l yX12_becomes cX12_becomes 4 (some .int) { frames := 0, cells := 0, slots := 0, locals := 0 } rLay rN D cA A [.ref (A 0), .int a1, .int a2] m (some (.int r)) m' := by
  refine met0_of (by decide) (Nat.le_of_ble_eq_true rfl) hI ?_
  intro p e s m0 below meth c ls X hinit hP hS hl
  generalize ([.ref (A 0), .int a1, .int a2] : List Value).toArray = args at X ⊢
  have hl : lv_has ls 4 [(0, .ref (A 0)), (1, .int a1), (2, .int a2)] := hl
  have X : CX rLay rN D cA A p s m0 args meth c "BenchTowelsModel" cX12_becomes 4 (some .int) := X
  have hx := X.1
  have hb := X.2.1
  have hml := X.2.2.1
  have hown := X.2.2.2.1
  have hts := X.2.2.2.2.1
  have hF := X.2.2.2.2.2.2.2.2.1
  rewrite [fX12_becomes] at h
  refine lv_aload_n hx hb dX12_becomes_0 rfl (lv_at hl 0 rfl) ?_
  refine r_get kc_12 0 X hP (by decide) (L_ref _) (by decide) rfl wt_5_172 dX12_becomes_1 ?_
  refine lv_iload_n hx hb dX12_becomes_4 rfl (lv_at hl 1 rfl) ?_
  obtain ⟨hin_1, h⟩ := gx_some h
  refine r_iald X hP (by decide) (Lr_1 _) hin_1 rfl dX12_becomes_5 ?_
  obtain ⟨x3_2, ex_3, h⟩ := lt_some h
  refine lv_ren ex_3 ?_
  refine lv_istore_n (lv' := [(3, .int x3_2), (0, .ref (A 0)), (1, .int a1), (2, .int a2)]) hx hb dX12_becomes_6 rfl hl (by decide) rfl (fun ls hl => ?_)
  refine lv_aload_n hx hb dX12_becomes_7 rfl (lv_at hl 1 rfl) ?_
  refine r_get kc_12 0 X hP (by decide) (L_ref _) (by decide) rfl wt_5_172 dX12_becomes_8 ?_
  refine lv_iload_n hx hb dX12_becomes_11 rfl (lv_at hl 2 rfl) ?_
  refine lv_iload_n hx hb dX12_becomes_12 rfl (lv_at hl 3 rfl) ?_
  obtain ⟨m_4, em_5, h⟩ := lt_some h
  refine r_iast X hP hS (by decide) Lr_1 hin_1 rfl dX12_becomes_13 em_5 (fun H locs hP hS => ?_)
  refine lv_iload_n hx hb dX12_becomes_14 rfl (lv_at hl 0 rfl) ?_
  exact r_iret X hP hS dX12_becomes_15 h

def fX12_isMachine (a1 : Int32) (m : Mm) : Option (Int32 × Mm) := (if a1 < 0 then some (0, m) else (if (6 : Int32) ≤ a1 then some (0, m) else some (1, m)))
set_option maxHeartbeats 4000000 in
set_option maxRecDepth 100000 in
theorem tX12_isMachine {l : Launch} {D : va_G} {cA : Nat → ClassId} {A : Nat → Nat} (hI : InjA rN A) {a1 : Int32} {m m' : Mm} {r : Int32} (h : fX12_isMachine a1 m = some (r, m')) : Met0 l yX12_isMachine cX12_isMachine 1 (some .boolean) { frames := 0, cells := 0, slots := 0, locals := 0 } rLay rN D cA A [.int a1] m (some (.int r)) m' := by
  refine met0_of (by decide) (Nat.le_of_ble_eq_true rfl) hI ?_
  intro p e s m0 below meth c ls X hinit hP hS hl
  generalize ([.int a1] : List Value).toArray = args at X ⊢
  have hl : lv_has ls 1 [(0, .int a1)] := hl
  have X : CX rLay rN D cA A p s m0 args meth c "BenchTowelsModel" cX12_isMachine 1 (some .boolean) := X
  have hx := X.1
  have hb := X.2.1
  have hml := X.2.2.1
  have hown := X.2.2.2.1
  have hts := X.2.2.2.2.1
  have hF := X.2.2.2.2.2.2.2.2.1
  rewrite [fX12_isMachine] at h
  refine lv_iload_n hx hb dX12_isMachine_0 rfl (lv_at hl 0 rfl) ?_
  refine lv_if_lt (tgt := 14) hx hb dX12_isMachine_1 (by decide) (fun c_1 => ?_) (fun c_1 => ?_)
  · have h := ifp c_1 h
    refine lv_iconst (v := 0) hx hb dX12_isMachine_14 (by decide) ?_
    exact r_zret X (Or.inl rfl) hP hS dX12_isMachine_15 h
  · have h := ifn c_1 h
    refine lv_iload_n hx hb dX12_isMachine_4 rfl (lv_at hl 0 rfl) ?_
    refine lv_bipush (v := 6) hx hb dX12_isMachine_5 (by decide) ?_
    refine lv_icmp_ge (tgt := 14) hx hb dX12_isMachine_7 (by decide) (fun c_2 => ?_) (fun c_2 => ?_)
    · have h := ifp c_2 h
      refine lv_iconst (v := 0) hx hb dX12_isMachine_14 (by decide) ?_
      exact r_zret X (Or.inl rfl) hP hS dX12_isMachine_15 h
    · have h := ifn c_2 h
      refine lv_iconst (v := 1) hx hb dX12_isMachine_10 (by decide) ?_
      refine lv_goto (tgt := 15) hx hb dX12_isMachine_11 (by decide) ?_
      exact r_zret X (Or.inr rfl) hP hS dX12_isMachine_15 h

def fX12_set (a1 : Int32) (a2 : Int32) (a3 : Int32) (a4 : Int32) (m : Mm) : Option (Int32 × Mm) := bd (fX12_isIn (Int32.toInt64 a1) (1 : Int64) (5 : Int64) m) fun r_1 m_2 => (if r_1 = 0 then some ((-1), m_2) else bd (fX12_isMachine a2 m_2) fun r_5 m_6 => (if r_5 = 0 then some ((-1), m_6) else bd (fX12_isIn (Int32.toInt64 a3) (1 : Int64) (9 : Int64) m_6) fun r_9 m_10 => (if r_9 = 0 then some ((-1), m_10) else bd (fX12_isIn (Int32.toInt64 a4) (0 : Int64) (2 : Int64) m_10) fun r_13 m_14 => (if r_13 = 0 then some ((-1), m_14) else (if (m_14 1 0) = 6 then some ((-2), m_14) else lt ((8 : Int32) + ((5 : Int32) * (m_14 1 0))) fun x5_18 => gx x5_18 553 (lt (up m_14 1 (ix x5_18) a1) fun m_21 => gx (x5_18 + 1) 553 (lt (up m_21 1 (ix (x5_18 + 1)) a2) fun m_24 => gx (x5_18 + 2) 553 (lt (up m_24 1 (ix (x5_18 + 2)) a3) fun m_27 => gx (x5_18 + 3) 553 (lt (up m_27 1 (ix (x5_18 + 3)) a4) fun m_30 => gx (x5_18 + 4) 553 (lt (up m_30 1 (ix (x5_18 + 4)) 3) fun m_33 => lt (up m_33 1 0 ((m_33 1 0) + 1)) fun m_35 => some (((m_35 1 0) - 1), m_35)))))))))))
set_option maxHeartbeats 4000000 in
set_option maxRecDepth 100000 in
theorem tX12_set {l : Launch} {D : va_G} {cA : Nat → ClassId} {A : Nat → Nat} (hI : InjA rN A) {a1 : Int32} {a2 : Int32} {a3 : Int32} {a4 : Int32} {m m' : Mm} {r : Int32} (h : fX12_set a1 a2 a3 a4 m = some (r, m')) : Met0 l yX12_set cX12_set 6 (some .int) { frames := 1, cells := 0, slots := 0, locals := 25 } rLay rN D cA A [.ref (A 0), .int a1, .int a2, .int a3, .int a4] m (some (.int r)) m' := by
  refine met0_of (by decide) (Nat.le_of_ble_eq_true rfl) hI ?_
  intro p e s m0 below meth c ls X hinit hP hS hl
  generalize ([.ref (A 0), .int a1, .int a2, .int a3, .int a4] : List Value).toArray = args at X ⊢
  have hl : lv_has ls 6 [(0, .ref (A 0)), (1, .int a1), (2, .int a2), (3, .int a3), (4, .int a4)] := hl
  have X : CX rLay rN D cA A p s m0 args meth c "BenchTowelsModel" cX12_set 6 (some .int) := X
  have hx := X.1
  have hb := X.2.1
  have hml := X.2.2.1
  have hown := X.2.2.2.1
  have hts := X.2.2.2.2.1
  have hF := X.2.2.2.2.2.2.2.2.1
  rewrite [fX12_set] at h
  refine lv_iload_n hx hb dX12_set_0 rfl (lv_at hl 1 rfl) ?_
  refine lv_i2l hx hb dX12_set_1 rfl ?_
  refine lv_lconst (v := 1) hx hb dX12_set_2 (by decide) ?_
  refine lv_ldc2 (v := 5) hx hb hown (hts _ wt_6_54) dX12_set_3 ?_
  obtain ⟨r_1, m_2, hc_3, h⟩ := bd_some h
  refine c_S (rest := []) X hP hS (tX12_isIn hI  hc_3) wt_6_55 wt_6_56 wt_1_13 wt_6_57 hy_X12_isIn ⟨rfl, rfl⟩ ⟨Nat.le_of_ble_eq_true rfl, Nat.le_of_ble_eq_true rfl⟩ rfl hl.1 rfl (Nat.le_of_ble_eq_true rfl) dX12_set_6 rfl (fun H locs hP hS => ?_)
  refine lv_if_eq (tgt := 44) hx hb dX12_set_9 (by decide) (fun c_4 => ?_) (fun c_4 => ?_)
  · have h := ifp c_4 h
    refine lv_iconst (v := (-1)) hx hb dX12_set_44 (by decide) ?_
    exact r_iret X hP hS dX12_set_45 h
  · have h := ifn c_4 h
    refine lv_iload_n hx hb dX12_set_12 rfl (lv_at hl 2 rfl) ?_
    obtain ⟨r_5, m_6, hc_7, h⟩ := bd_some h
    refine c_S (rest := []) X hP hS (tX12_isMachine hI  hc_7) wt_6_58 wt_6_59 wt_1_13 wt_6_60 hy_X12_isMachine ⟨rfl, rfl⟩ ⟨Nat.le_of_ble_eq_true rfl, Nat.le_of_ble_eq_true rfl⟩ rfl hl.1 rfl (Nat.le_of_ble_eq_true rfl) dX12_set_13 rfl (fun H locs hP hS => ?_)
    refine lv_if_eq (tgt := 44) hx hb dX12_set_16 (by decide) (fun c_8 => ?_) (fun c_8 => ?_)
    · have h := ifp c_8 h
      refine lv_iconst (v := (-1)) hx hb dX12_set_44 (by decide) ?_
      exact r_iret X hP hS dX12_set_45 h
    · have h := ifn c_8 h
      refine lv_iload_n hx hb dX12_set_19 rfl (lv_at hl 3 rfl) ?_
      refine lv_i2l hx hb dX12_set_20 rfl ?_
      refine lv_lconst (v := 1) hx hb dX12_set_21 (by decide) ?_
      refine lv_ldc2 (v := 9) hx hb hown (hts _ wt_6_61) dX12_set_22 ?_
      obtain ⟨r_9, m_10, hc_11, h⟩ := bd_some h
      refine c_S (rest := []) X hP hS (tX12_isIn hI  hc_11) wt_6_55 wt_6_56 wt_1_13 wt_6_57 hy_X12_isIn ⟨rfl, rfl⟩ ⟨Nat.le_of_ble_eq_true rfl, Nat.le_of_ble_eq_true rfl⟩ rfl hl.1 rfl (Nat.le_of_ble_eq_true rfl) dX12_set_25 rfl (fun H locs hP hS => ?_)
      refine lv_if_eq (tgt := 44) hx hb dX12_set_28 (by decide) (fun c_12 => ?_) (fun c_12 => ?_)
      · have h := ifp c_12 h
        refine lv_iconst (v := (-1)) hx hb dX12_set_44 (by decide) ?_
        exact r_iret X hP hS dX12_set_45 h
      · have h := ifn c_12 h
        refine lv_iload hx hb dX12_set_31 (lv_at hl 4 rfl) ?_
        refine lv_i2l hx hb dX12_set_33 rfl ?_
        refine lv_lconst (v := 0) hx hb dX12_set_34 (by decide) ?_
        refine lv_ldc2 (v := 2) hx hb hown (hts _ wt_6_62) dX12_set_35 ?_
        obtain ⟨r_13, m_14, hc_15, h⟩ := bd_some h
        refine c_S (rest := []) X hP hS (tX12_isIn hI  hc_15) wt_6_55 wt_6_56 wt_1_13 wt_6_57 hy_X12_isIn ⟨rfl, rfl⟩ ⟨Nat.le_of_ble_eq_true rfl, Nat.le_of_ble_eq_true rfl⟩ rfl hl.1 rfl (Nat.le_of_ble_eq_true rfl) dX12_set_38 rfl (fun H locs hP hS => ?_)
        refine lv_if_ne (tgt := 46) hx hb dX12_set_41 (by decide) (fun c_16 => ?_) (fun c_16 => ?_)
        · have h := ifn c_16 h
          refine lv_aload_n hx hb dX12_set_46 rfl (lv_at hl 0 rfl) ?_
          refine r_get kc_12 0 X hP (by decide) (L_ref _) (by decide) rfl wt_5_172 dX12_set_47 ?_
          refine lv_iconst (v := 0) hx hb dX12_set_50 (by decide) ?_
          refine r_iald X hP (by decide) (Lr_1 _) (vpc (by decide)) ixc_0 dX12_set_51 ?_
          refine lv_bipush (v := 6) hx hb dX12_set_52 (by decide) ?_
          refine lv_icmp_ne (tgt := 60) hx hb dX12_set_54 (by decide) (fun c_17 => ?_) (fun c_17 => ?_)
          · have h := ifn c_17 h
            refine lv_bipush (v := 8) hx hb dX12_set_60 (by decide) ?_
            refine lv_iconst (v := 5) hx hb dX12_set_62 (by decide) ?_
            refine lv_aload_n hx hb dX12_set_63 rfl (lv_at hl 0 rfl) ?_
            refine r_get kc_12 0 X hP (by decide) (L_ref _) (by decide) rfl wt_5_172 dX12_set_64 ?_
            refine lv_iconst (v := 0) hx hb dX12_set_67 (by decide) ?_
            refine r_iald X hP (by decide) (Lr_1 _) (vpc (by decide)) ixc_0 dX12_set_68 ?_
            refine lv_imul hx hb dX12_set_69 ?_
            refine lv_iadd hx hb dX12_set_70 ?_
            obtain ⟨x5_18, ex_19, h⟩ := lt_some h
            refine lv_ren ex_19 ?_
            refine lv_istore (lv' := [(5, .int x5_18), (0, .ref (A 0)), (1, .int a1), (2, .int a2), (3, .int a3), (4, .int a4)]) hx hb dX12_set_71 hl (by decide) rfl (fun ls hl => ?_)
            refine lv_aload_n hx hb dX12_set_73 rfl (lv_at hl 1 rfl) ?_
            refine r_get kc_12 0 X hP (by decide) (L_ref _) (by decide) rfl wt_5_172 dX12_set_74 ?_
            refine lv_iload hx hb dX12_set_77 (lv_at hl 0 rfl) ?_
            refine lv_iload_n hx hb dX12_set_79 rfl (lv_at hl 2 rfl) ?_
            obtain ⟨hin_20, h⟩ := gx_some h
            obtain ⟨m_21, em_22, h⟩ := lt_some h
            refine r_iast X hP hS (by decide) Lr_1 hin_20 rfl dX12_set_80 em_22 (fun H locs hP hS => ?_)
            refine lv_aload_n hx hb dX12_set_81 rfl (lv_at hl 1 rfl) ?_
            refine r_get kc_12 0 X hP (by decide) (L_ref _) (by decide) rfl wt_5_172 dX12_set_82 ?_
            refine lv_iload hx hb dX12_set_85 (lv_at hl 0 rfl) ?_
            refine lv_iconst (v := 1) hx hb dX12_set_87 (by decide) ?_
            refine lv_iadd hx hb dX12_set_88 ?_
            refine lv_iload_n hx hb dX12_set_89 rfl (lv_at hl 3 rfl) ?_
            obtain ⟨hin_23, h⟩ := gx_some h
            obtain ⟨m_24, em_25, h⟩ := lt_some h
            refine r_iast X hP hS (by decide) Lr_1 hin_23 rfl dX12_set_90 em_25 (fun H locs hP hS => ?_)
            refine lv_aload_n hx hb dX12_set_91 rfl (lv_at hl 1 rfl) ?_
            refine r_get kc_12 0 X hP (by decide) (L_ref _) (by decide) rfl wt_5_172 dX12_set_92 ?_
            refine lv_iload hx hb dX12_set_95 (lv_at hl 0 rfl) ?_
            refine lv_iconst (v := 2) hx hb dX12_set_97 (by decide) ?_
            refine lv_iadd hx hb dX12_set_98 ?_
            refine lv_iload_n hx hb dX12_set_99 rfl (lv_at hl 4 rfl) ?_
            obtain ⟨hin_26, h⟩ := gx_some h
            obtain ⟨m_27, em_28, h⟩ := lt_some h
            refine r_iast X hP hS (by decide) Lr_1 hin_26 rfl dX12_set_100 em_28 (fun H locs hP hS => ?_)
            refine lv_aload_n hx hb dX12_set_101 rfl (lv_at hl 1 rfl) ?_
            refine r_get kc_12 0 X hP (by decide) (L_ref _) (by decide) rfl wt_5_172 dX12_set_102 ?_
            refine lv_iload hx hb dX12_set_105 (lv_at hl 0 rfl) ?_
            refine lv_iconst (v := 3) hx hb dX12_set_107 (by decide) ?_
            refine lv_iadd hx hb dX12_set_108 ?_
            refine lv_iload hx hb dX12_set_109 (lv_at hl 5 rfl) ?_
            obtain ⟨hin_29, h⟩ := gx_some h
            obtain ⟨m_30, em_31, h⟩ := lt_some h
            refine r_iast X hP hS (by decide) Lr_1 hin_29 rfl dX12_set_111 em_31 (fun H locs hP hS => ?_)
            refine lv_aload_n hx hb dX12_set_112 rfl (lv_at hl 1 rfl) ?_
            refine r_get kc_12 0 X hP (by decide) (L_ref _) (by decide) rfl wt_5_172 dX12_set_113 ?_
            refine lv_iload hx hb dX12_set_116 (lv_at hl 0 rfl) ?_
            refine lv_iconst (v := 4) hx hb dX12_set_118 (by decide) ?_
            refine lv_iadd hx hb dX12_set_119 ?_
            refine lv_iconst (v := 3) hx hb dX12_set_120 (by decide) ?_
            obtain ⟨hin_32, h⟩ := gx_some h
            obtain ⟨m_33, em_34, h⟩ := lt_some h
            refine r_iast X hP hS (by decide) Lr_1 hin_32 rfl dX12_set_121 em_34 (fun H locs hP hS => ?_)
            refine lv_aload_n hx hb dX12_set_122 rfl (lv_at hl 1 rfl) ?_
            refine r_get kc_12 0 X hP (by decide) (L_ref _) (by decide) rfl wt_5_172 dX12_set_123 ?_
            refine lv_iconst (v := 0) hx hb dX12_set_126 (by decide) ?_
            refine lv_dup2_11 hx hb dX12_set_127 rfl rfl ?_
            refine r_iald X hP (by decide) (Lr_1 _) (vpc (by decide)) ixc_0 dX12_set_128 ?_
            refine lv_iconst (v := 1) hx hb dX12_set_129 (by decide) ?_
            refine lv_iadd hx hb dX12_set_130 ?_
            obtain ⟨m_35, em_36, h⟩ := lt_some h
            refine r_iast X hP hS (by decide) Lr_1 (vpc (by decide)) ixc_0 dX12_set_131 em_36 (fun H locs hP hS => ?_)
            refine lv_aload_n hx hb dX12_set_132 rfl (lv_at hl 1 rfl) ?_
            refine r_get kc_12 0 X hP (by decide) (L_ref _) (by decide) rfl wt_5_172 dX12_set_133 ?_
            refine lv_iconst (v := 0) hx hb dX12_set_136 (by decide) ?_
            refine r_iald X hP (by decide) (Lr_1 _) (vpc (by decide)) ixc_0 dX12_set_137 ?_
            refine lv_iconst (v := 1) hx hb dX12_set_138 (by decide) ?_
            refine lv_isub hx hb dX12_set_139 ?_
            exact r_iret X hP hS dX12_set_140 h
          · have h := ifp c_17 h
            refine lv_bipush (v := (-2)) hx hb dX12_set_57 (by decide) ?_
            exact r_iret X hP hS dX12_set_59 h
        · have h := ifp c_16 h
          refine lv_iconst (v := (-1)) hx hb dX12_set_44 (by decide) ?_
          exact r_iret X hP hS dX12_set_45 h

def fX12_isTaken (a1 : Int32) (a2 : Int32) (m : Mm) : Option (Int32 × Mm) := bd (fX12_its a1 (1 : Int32) m) fun r_1 m_2 => gx ((47 : Int32) + r_1) 553 ((if (((m_2 1 (ix ((47 : Int32) + r_1))) >>> (a2 &&& 31)) &&& 1) = 1 then some (1, m_2) else some (0, m_2)))
set_option maxHeartbeats 4000000 in
set_option maxRecDepth 100000 in
theorem tX12_isTaken {l : Launch} {D : va_G} {cA : Nat → ClassId} {A : Nat → Nat} (hI : InjA rN A) {a1 : Int32} {a2 : Int32} {m m' : Mm} {r : Int32} (h : fX12_isTaken a1 a2 m = some (r, m')) : Met0 l yX12_isTaken cX12_isTaken 3 (some .boolean) { frames := 1, cells := 0, slots := 0, locals := 22 } rLay rN D cA A [.ref (A 0), .int a1, .int a2] m (some (.int r)) m' := by
  refine met0_of (by decide) (Nat.le_of_ble_eq_true rfl) hI ?_
  intro p e s m0 below meth c ls X hinit hP hS hl
  generalize ([.ref (A 0), .int a1, .int a2] : List Value).toArray = args at X ⊢
  have hl : lv_has ls 3 [(0, .ref (A 0)), (1, .int a1), (2, .int a2)] := hl
  have X : CX rLay rN D cA A p s m0 args meth c "BenchTowelsModel" cX12_isTaken 3 (some .boolean) := X
  have hx := X.1
  have hb := X.2.1
  have hml := X.2.2.1
  have hown := X.2.2.2.1
  have hts := X.2.2.2.2.1
  have hF := X.2.2.2.2.2.2.2.2.1
  rewrite [fX12_isTaken] at h
  refine lv_aload_n hx hb dX12_isTaken_0 rfl (lv_at hl 0 rfl) ?_
  refine r_get kc_12 0 X hP (by decide) (L_ref _) (by decide) rfl wt_5_172 dX12_isTaken_1 ?_
  refine lv_bipush (v := 47) hx hb dX12_isTaken_4 (by decide) ?_
  refine lv_aload_n hx hb dX12_isTaken_6 rfl (lv_at hl 0 rfl) ?_
  refine lv_iload_n hx hb dX12_isTaken_7 rfl (lv_at hl 1 rfl) ?_
  refine lv_iconst (v := 1) hx hb dX12_isTaken_8 (by decide) ?_
  obtain ⟨r_1, m_2, hc_3, h⟩ := bd_some h
  refine c_V (rest := [.int 47, .ref (A 1)]) X hP hS (tX12_its hI  hc_3) (by decide) (L_ref _) rfl wt_6_76 wt_6_78 ws_2_10 wt_1_13 wt_6_79 ⟨rfl, hy_X12_its⟩ ⟨rfl, rfl⟩ ⟨Nat.le_of_ble_eq_true rfl, Nat.le_of_ble_eq_true rfl⟩ rfl hl.1 rfl (Nat.le_of_ble_eq_true rfl) dX12_isTaken_9 rfl (fun H locs hP hS => ?_)
  refine lv_iadd hx hb dX12_isTaken_12 ?_
  obtain ⟨hin_4, h⟩ := gx_some h
  refine r_iald X hP (by decide) (Lr_1 _) hin_4 rfl dX12_isTaken_13 ?_
  refine lv_iload_n hx hb dX12_isTaken_14 rfl (lv_at hl 2 rfl) ?_
  refine lv_ishr hx hb dX12_isTaken_15 ?_
  refine lv_iconst (v := 1) hx hb dX12_isTaken_16 (by decide) ?_
  refine lv_iand hx hb dX12_isTaken_17 ?_
  refine lv_iconst (v := 1) hx hb dX12_isTaken_18 (by decide) ?_
  refine lv_icmp_ne (tgt := 26) hx hb dX12_isTaken_19 (by decide) (fun c_5 => ?_) (fun c_5 => ?_)
  · have h := ifn c_5 h
    refine lv_iconst (v := 0) hx hb dX12_isTaken_26 (by decide) ?_
    exact r_zret X (Or.inl rfl) hP hS dX12_isTaken_27 h
  · have h := ifp c_5 h
    refine lv_iconst (v := 1) hx hb dX12_isTaken_22 (by decide) ?_
    refine lv_goto (tgt := 27) hx hb dX12_isTaken_23 (by decide) ?_
    exact r_zret X (Or.inr rfl) hP hS dX12_isTaken_27 h

def fX12_may (a1 : Int32) (a2 : Int32) (m : Mm) : Option (Int32 × Mm) := bd (fX12_its a1 (0 : Int32) m) fun r_1 m_2 => (if r_1 = 1 then (if a2 ≤ 0 then some (0, m_2) else bd (fX12_isTaken a1 a2 m_2) fun r_6 m_7 => (if r_6 = 0 then some (1, m_7) else some (0, m_7))) else (if r_1 = 2 then (if (a2 - a2 / 2 * 2) = 1 then some (1, m_2) else bd (fX12_isTaken a1 a2 m_2) fun r_12 m_13 => (if r_12 = 0 then some (1, m_13) else some (0, m_13))) else (if r_1 = 3 then some (1, m_2) else (if r_1 = 4 then bd (fX12_isTaken a1 a2 m_2) fun r_18 m_19 => (if r_18 = 0 then some (1, m_19) else (if a2 ≤ 0 then some (0, m_19) else bd (fX12_isTaken a1 (a2 - 1) m_19) fun r_23 m_24 => (if r_23 = 0 then some (1, m_24) else some (0, m_24)))) else bd (fX12_isTaken a1 a2 m_2) fun r_27 m_28 => gb r_27 (some (r_27, m_28))))))
set_option maxHeartbeats 4000000 in
set_option maxRecDepth 100000 in
theorem tX12_may {l : Launch} {D : va_G} {cA : Nat → ClassId} {A : Nat → Nat} (hI : InjA rN A) {a1 : Int32} {a2 : Int32} {m m' : Mm} {r : Int32} (h : fX12_may a1 a2 m = some (r, m')) : Met0 l yX12_may cX12_may 3 (some .boolean) { frames := 2, cells := 0, slots := 0, locals := 44 } rLay rN D cA A [.ref (A 0), .int a1, .int a2] m (some (.int r)) m' := by
  refine met0_of (by decide) (Nat.le_of_ble_eq_true rfl) hI ?_
  intro p e s m0 below meth c ls X hinit hP hS hl
  generalize ([.ref (A 0), .int a1, .int a2] : List Value).toArray = args at X ⊢
  have hl : lv_has ls 3 [(0, .ref (A 0)), (1, .int a1), (2, .int a2)] := hl
  have X : CX rLay rN D cA A p s m0 args meth c "BenchTowelsModel" cX12_may 3 (some .boolean) := X
  have hx := X.1
  have hb := X.2.1
  have hml := X.2.2.1
  have hown := X.2.2.2.1
  have hts := X.2.2.2.2.1
  have hF := X.2.2.2.2.2.2.2.2.1
  rewrite [fX12_may] at h
  refine lv_aload_n hx hb dX12_may_0 rfl (lv_at hl 0 rfl) ?_
  refine lv_iload_n hx hb dX12_may_1 rfl (lv_at hl 1 rfl) ?_
  refine lv_iconst (v := 0) hx hb dX12_may_2 (by decide) ?_
  obtain ⟨r_1, m_2, hc_3, h⟩ := bd_some h
  refine c_V (rest := []) X hP hS (tX12_its hI  hc_3) (by decide) (L_ref _) rfl wt_6_76 wt_6_78 ws_2_10 wt_1_13 wt_6_79 ⟨rfl, hy_X12_its⟩ ⟨rfl, rfl⟩ ⟨Nat.le_of_ble_eq_true rfl, Nat.le_of_ble_eq_true rfl⟩ rfl hl.1 rfl (Nat.le_of_ble_eq_true rfl) dX12_may_3 rfl (fun H locs hP hS => ?_)
  by_cases c_4 : r_1 = 1
  · have h := ifp c_4 h
    refine lv_ren c_4.symm ?_
    refine lv_tableIn (tgt := 36) hx hb dX12_may_6 (by decide) (by decide) rfl (by decide) ?_
    refine lv_iload_n hx hb dX12_may_36 rfl (lv_at hl 2 rfl) ?_
    refine lv_if_le (tgt := 53) hx hb dX12_may_37 (by decide) (fun c_5 => ?_) (fun c_5 => ?_)
    · have h := ifp c_5 h
      refine lv_iconst (v := 0) hx hb dX12_may_53 (by decide) ?_
      exact r_zret X (Or.inl rfl) hP hS dX12_may_54 h
    · have h := ifn c_5 h
      refine lv_aload_n hx hb dX12_may_40 rfl (lv_at hl 0 rfl) ?_
      refine lv_iload_n hx hb dX12_may_41 rfl (lv_at hl 1 rfl) ?_
      refine lv_iload_n hx hb dX12_may_42 rfl (lv_at hl 2 rfl) ?_
      obtain ⟨r_6, m_7, hc_8, h⟩ := bd_some h
      refine c_V (rest := []) X hP hS (tX12_isTaken hI  hc_8) (by decide) (L_ref _) rfl wt_6_80 wt_6_82 ws_2_11 wt_1_13 wt_6_83 ⟨rfl, hy_X12_isTaken⟩ ⟨rfl, rfl⟩ ⟨Nat.le_of_ble_eq_true rfl, Nat.le_of_ble_eq_true rfl⟩ rfl hl.1 rfl (Nat.le_of_ble_eq_true rfl) dX12_may_43 rfl (fun H locs hP hS => ?_)
      refine lv_if_ne (tgt := 53) hx hb dX12_may_46 (by decide) (fun c_9 => ?_) (fun c_9 => ?_)
      · have h := ifn c_9 h
        refine lv_iconst (v := 0) hx hb dX12_may_53 (by decide) ?_
        exact r_zret X (Or.inl rfl) hP hS dX12_may_54 h
      · have h := ifp c_9 h
        refine lv_iconst (v := 1) hx hb dX12_may_49 (by decide) ?_
        refine lv_goto (tgt := 54) hx hb dX12_may_50 (by decide) ?_
        exact r_zret X (Or.inr rfl) hP hS dX12_may_54 h
  have h := ifn c_4 h
  by_cases c_10 : r_1 = 2
  · have h := ifp c_10 h
    refine lv_ren c_10.symm ?_
    refine lv_tableIn (tgt := 55) hx hb dX12_may_6 (by decide) (by decide) rfl (by decide) ?_
    refine lv_iload_n hx hb dX12_may_55 rfl (lv_at hl 2 rfl) ?_
    refine lv_iconst (v := 2) hx hb dX12_may_56 (by decide) ?_
    refine lv_irem hx hb dX12_may_57 (by decide) ?_
    refine lv_iconst (v := 1) hx hb dX12_may_58 (by decide) ?_
    refine lv_icmp_eq (tgt := 71) hx hb dX12_may_59 (by decide) (fun c_11 => ?_) (fun c_11 => ?_)
    · have h := ifp c_11 h
      refine lv_iconst (v := 1) hx hb dX12_may_71 (by decide) ?_
      refine lv_goto (tgt := 76) hx hb dX12_may_72 (by decide) ?_
      exact r_zret X (Or.inr rfl) hP hS dX12_may_76 h
    · have h := ifn c_11 h
      refine lv_aload_n hx hb dX12_may_62 rfl (lv_at hl 0 rfl) ?_
      refine lv_iload_n hx hb dX12_may_63 rfl (lv_at hl 1 rfl) ?_
      refine lv_iload_n hx hb dX12_may_64 rfl (lv_at hl 2 rfl) ?_
      obtain ⟨r_12, m_13, hc_14, h⟩ := bd_some h
      refine c_V (rest := []) X hP hS (tX12_isTaken hI  hc_14) (by decide) (L_ref _) rfl wt_6_80 wt_6_82 ws_2_11 wt_1_13 wt_6_83 ⟨rfl, hy_X12_isTaken⟩ ⟨rfl, rfl⟩ ⟨Nat.le_of_ble_eq_true rfl, Nat.le_of_ble_eq_true rfl⟩ rfl hl.1 rfl (Nat.le_of_ble_eq_true rfl) dX12_may_65 rfl (fun H locs hP hS => ?_)
      refine lv_if_ne (tgt := 75) hx hb dX12_may_68 (by decide) (fun c_15 => ?_) (fun c_15 => ?_)
      · have h := ifn c_15 h
        refine lv_iconst (v := 0) hx hb dX12_may_75 (by decide) ?_
        exact r_zret X (Or.inl rfl) hP hS dX12_may_76 h
      · have h := ifp c_15 h
        refine lv_iconst (v := 1) hx hb dX12_may_71 (by decide) ?_
        refine lv_goto (tgt := 76) hx hb dX12_may_72 (by decide) ?_
        exact r_zret X (Or.inr rfl) hP hS dX12_may_76 h
  have h := ifn c_10 h
  by_cases c_16 : r_1 = 3
  · have h := ifp c_16 h
    refine lv_ren c_16.symm ?_
    refine lv_tableIn (tgt := 77) hx hb dX12_may_6 (by decide) (by decide) rfl (by decide) ?_
    refine lv_iconst (v := 1) hx hb dX12_may_77 (by decide) ?_
    exact r_zret X (Or.inr rfl) hP hS dX12_may_78 h
  have h := ifn c_16 h
  by_cases c_17 : r_1 = 4
  · have h := ifp c_17 h
    refine lv_ren c_17.symm ?_
    refine lv_tableIn (tgt := 79) hx hb dX12_may_6 (by decide) (by decide) rfl (by decide) ?_
    refine lv_aload_n hx hb dX12_may_79 rfl (lv_at hl 0 rfl) ?_
    refine lv_iload_n hx hb dX12_may_80 rfl (lv_at hl 1 rfl) ?_
    refine lv_iload_n hx hb dX12_may_81 rfl (lv_at hl 2 rfl) ?_
    obtain ⟨r_18, m_19, hc_20, h⟩ := bd_some h
    refine c_V (rest := []) X hP hS (tX12_isTaken hI  hc_20) (by decide) (L_ref _) rfl wt_6_80 wt_6_82 ws_2_11 wt_1_13 wt_6_83 ⟨rfl, hy_X12_isTaken⟩ ⟨rfl, rfl⟩ ⟨Nat.le_of_ble_eq_true rfl, Nat.le_of_ble_eq_true rfl⟩ rfl hl.1 rfl (Nat.le_of_ble_eq_true rfl) dX12_may_82 rfl (fun H locs hP hS => ?_)
    refine lv_if_eq (tgt := 103) hx hb dX12_may_85 (by decide) (fun c_21 => ?_) (fun c_21 => ?_)
    · have h := ifp c_21 h
      refine lv_iconst (v := 1) hx hb dX12_may_103 (by decide) ?_
      refine lv_goto (tgt := 108) hx hb dX12_may_104 (by decide) ?_
      exact r_zret X (Or.inr rfl) hP hS dX12_may_108 h
    · have h := ifn c_21 h
      refine lv_iload_n hx hb dX12_may_88 rfl (lv_at hl 2 rfl) ?_
      refine lv_if_le (tgt := 107) hx hb dX12_may_89 (by decide) (fun c_22 => ?_) (fun c_22 => ?_)
      · have h := ifp c_22 h
        refine lv_iconst (v := 0) hx hb dX12_may_107 (by decide) ?_
        exact r_zret X (Or.inl rfl) hP hS dX12_may_108 h
      · have h := ifn c_22 h
        refine lv_aload_n hx hb dX12_may_92 rfl (lv_at hl 0 rfl) ?_
        refine lv_iload_n hx hb dX12_may_93 rfl (lv_at hl 1 rfl) ?_
        refine lv_iload_n hx hb dX12_may_94 rfl (lv_at hl 2 rfl) ?_
        refine lv_iconst (v := 1) hx hb dX12_may_95 (by decide) ?_
        refine lv_isub hx hb dX12_may_96 ?_
        obtain ⟨r_23, m_24, hc_25, h⟩ := bd_some h
        refine c_V (rest := []) X hP hS (tX12_isTaken hI  hc_25) (by decide) (L_ref _) rfl wt_6_80 wt_6_82 ws_2_11 wt_1_13 wt_6_83 ⟨rfl, hy_X12_isTaken⟩ ⟨rfl, rfl⟩ ⟨Nat.le_of_ble_eq_true rfl, Nat.le_of_ble_eq_true rfl⟩ rfl hl.1 rfl (Nat.le_of_ble_eq_true rfl) dX12_may_97 rfl (fun H locs hP hS => ?_)
        refine lv_if_ne (tgt := 107) hx hb dX12_may_100 (by decide) (fun c_26 => ?_) (fun c_26 => ?_)
        · have h := ifn c_26 h
          refine lv_iconst (v := 0) hx hb dX12_may_107 (by decide) ?_
          exact r_zret X (Or.inl rfl) hP hS dX12_may_108 h
        · have h := ifp c_26 h
          refine lv_iconst (v := 1) hx hb dX12_may_103 (by decide) ?_
          refine lv_goto (tgt := 108) hx hb dX12_may_104 (by decide) ?_
          exact r_zret X (Or.inr rfl) hP hS dX12_may_108 h
  have h := ifn c_17 h
  refine lv_tableOut (tgt := 109) hx hb dX12_may_6 (by have q1001 : r_1.toInt ≠ 1 := fun q => c_4 (Int32.toInt_inj.mp (q.trans (by decide)));  have q1002 : r_1.toInt ≠ 2 := fun q => c_10 (Int32.toInt_inj.mp (q.trans (by decide)));  have q1003 : r_1.toInt ≠ 3 := fun q => c_16 (Int32.toInt_inj.mp (q.trans (by decide)));  have q1004 : r_1.toInt ≠ 4 := fun q => c_17 (Int32.toInt_inj.mp (q.trans (by decide)));  omega) (by decide) ?_
  refine lv_aload_n hx hb dX12_may_109 rfl (lv_at hl 0 rfl) ?_
  refine lv_iload_n hx hb dX12_may_110 rfl (lv_at hl 1 rfl) ?_
  refine lv_iload_n hx hb dX12_may_111 rfl (lv_at hl 2 rfl) ?_
  obtain ⟨r_27, m_28, hc_29, h⟩ := bd_some h
  refine c_V (rest := []) X hP hS (tX12_isTaken hI  hc_29) (by decide) (L_ref _) rfl wt_6_80 wt_6_82 ws_2_11 wt_1_13 wt_6_83 ⟨rfl, hy_X12_isTaken⟩ ⟨rfl, rfl⟩ ⟨Nat.le_of_ble_eq_true rfl, Nat.le_of_ble_eq_true rfl⟩ rfl hl.1 rfl (Nat.le_of_ble_eq_true rfl) dX12_may_112 rfl (fun H locs hP hS => ?_)
  obtain ⟨hz_30, h⟩ := gb_some h
  exact r_zret X hz_30 hP hS dX12_may_115 h

def fX12_gains (a1 : Int32) (m : Mm) : Option (Int32 × Mm) := bd (fX12_its a1 (2 : Int32) m) fun r_1 m_2 => bd (fX12_its a1 (0 : Int32) m_2) fun r_4 m_5 => (if r_4 = 1 then some ((r_1 + 2), m_5) else (if r_4 = 2 then some ((r_1 - 1), m_5) else (if r_4 = 3 then (if ((m_5 1 1) - (m_5 1 1) / 2 * 2) = 0 then some ((r_1 + 2), m_5) else some ((r_1 - 1), m_5)) else (if r_4 = 4 then some (r_1, m_5) else (if r_4 = 5 then some (((2 : Int32) * r_1), m_5) else some (r_1, m_5))))))
set_option maxHeartbeats 4000000 in
set_option maxRecDepth 100000 in
theorem tX12_gains {l : Launch} {D : va_G} {cA : Nat → ClassId} {A : Nat → Nat} (hI : InjA rN A) {a1 : Int32} {m m' : Mm} {r : Int32} (h : fX12_gains a1 m = some (r, m')) : Met0 l yX12_gains cX12_gains 3 (some .int) { frames := 1, cells := 0, slots := 0, locals := 22 } rLay rN D cA A [.ref (A 0), .int a1] m (some (.int r)) m' := by
  refine met0_of (by decide) (Nat.le_of_ble_eq_true rfl) hI ?_
  intro p e s m0 below meth c ls X hinit hP hS hl
  generalize ([.ref (A 0), .int a1] : List Value).toArray = args at X ⊢
  have hl : lv_has ls 3 [(0, .ref (A 0)), (1, .int a1)] := hl
  have X : CX rLay rN D cA A p s m0 args meth c "BenchTowelsModel" cX12_gains 3 (some .int) := X
  have hx := X.1
  have hb := X.2.1
  have hml := X.2.2.1
  have hown := X.2.2.2.1
  have hts := X.2.2.2.2.1
  have hF := X.2.2.2.2.2.2.2.2.1
  rewrite [fX12_gains] at h
  refine lv_aload_n hx hb dX12_gains_0 rfl (lv_at hl 0 rfl) ?_
  refine lv_iload_n hx hb dX12_gains_1 rfl (lv_at hl 1 rfl) ?_
  refine lv_iconst (v := 2) hx hb dX12_gains_2 (by decide) ?_
  obtain ⟨r_1, m_2, hc_3, h⟩ := bd_some h
  refine c_V (rest := []) X hP hS (tX12_its hI  hc_3) (by decide) (L_ref _) rfl wt_6_76 wt_6_78 ws_2_10 wt_1_13 wt_6_79 ⟨rfl, hy_X12_its⟩ ⟨rfl, rfl⟩ ⟨Nat.le_of_ble_eq_true rfl, Nat.le_of_ble_eq_true rfl⟩ rfl hl.1 rfl (Nat.le_of_ble_eq_true rfl) dX12_gains_3 rfl (fun H locs hP hS => ?_)
  refine lv_istore_n (lv' := [(2, .int r_1), (0, .ref (A 0)), (1, .int a1)]) hx hb dX12_gains_6 rfl hl (by decide) rfl (fun ls hl => ?_)
  refine lv_aload_n hx hb dX12_gains_7 rfl (lv_at hl 1 rfl) ?_
  refine lv_iload_n hx hb dX12_gains_8 rfl (lv_at hl 2 rfl) ?_
  refine lv_iconst (v := 0) hx hb dX12_gains_9 (by decide) ?_
  obtain ⟨r_4, m_5, hc_6, h⟩ := bd_some h
  refine c_V (rest := []) X hP hS (tX12_its hI  hc_6) (by decide) (L_ref _) rfl wt_6_76 wt_6_78 ws_2_10 wt_1_13 wt_6_79 ⟨rfl, hy_X12_its⟩ ⟨rfl, rfl⟩ ⟨Nat.le_of_ble_eq_true rfl, Nat.le_of_ble_eq_true rfl⟩ rfl hl.1 rfl (Nat.le_of_ble_eq_true rfl) dX12_gains_10 rfl (fun H locs hP hS => ?_)
  by_cases c_7 : r_4 = 1
  · have h := ifp c_7 h
    refine lv_ren c_7.symm ?_
    refine lv_tableIn (tgt := 48) hx hb dX12_gains_13 (by decide) (by decide) rfl (by decide) ?_
    refine lv_iload_n hx hb dX12_gains_48 rfl (lv_at hl 0 rfl) ?_
    refine lv_iconst (v := 2) hx hb dX12_gains_49 (by decide) ?_
    refine lv_iadd hx hb dX12_gains_50 ?_
    exact r_iret X hP hS dX12_gains_51 h
  have h := ifn c_7 h
  by_cases c_8 : r_4 = 2
  · have h := ifp c_8 h
    refine lv_ren c_8.symm ?_
    refine lv_tableIn (tgt := 52) hx hb dX12_gains_13 (by decide) (by decide) rfl (by decide) ?_
    refine lv_iload_n hx hb dX12_gains_52 rfl (lv_at hl 0 rfl) ?_
    refine lv_iconst (v := 1) hx hb dX12_gains_53 (by decide) ?_
    refine lv_isub hx hb dX12_gains_54 ?_
    exact r_iret X hP hS dX12_gains_55 h
  have h := ifn c_8 h
  by_cases c_9 : r_4 = 3
  · have h := ifp c_9 h
    refine lv_ren c_9.symm ?_
    refine lv_tableIn (tgt := 56) hx hb dX12_gains_13 (by decide) (by decide) rfl (by decide) ?_
    refine lv_aload_n hx hb dX12_gains_56 rfl (lv_at hl 1 rfl) ?_
    refine r_get kc_12 0 X hP (by decide) (L_ref _) (by decide) rfl wt_5_172 dX12_gains_57 ?_
    refine lv_iconst (v := 1) hx hb dX12_gains_60 (by decide) ?_
    refine r_iald X hP (by decide) (Lr_1 _) (vpc (by decide)) ixc_1 dX12_gains_61 ?_
    refine lv_iconst (v := 2) hx hb dX12_gains_62 (by decide) ?_
    refine lv_irem hx hb dX12_gains_63 (by decide) ?_
    refine lv_if_ne (tgt := 73) hx hb dX12_gains_64 (by decide) (fun c_10 => ?_) (fun c_10 => ?_)
    · have h := ifn c_10 h
      refine lv_iload_n hx hb dX12_gains_73 rfl (lv_at hl 0 rfl) ?_
      refine lv_iconst (v := 1) hx hb dX12_gains_74 (by decide) ?_
      refine lv_isub hx hb dX12_gains_75 ?_
      exact r_iret X hP hS dX12_gains_76 h
    · have h := ifp c_10 h
      refine lv_iload_n hx hb dX12_gains_67 rfl (lv_at hl 0 rfl) ?_
      refine lv_iconst (v := 2) hx hb dX12_gains_68 (by decide) ?_
      refine lv_iadd hx hb dX12_gains_69 ?_
      refine lv_goto (tgt := 76) hx hb dX12_gains_70 (by decide) ?_
      exact r_iret X hP hS dX12_gains_76 h
  have h := ifn c_9 h
  by_cases c_11 : r_4 = 4
  · have h := ifp c_11 h
    refine lv_ren c_11.symm ?_
    refine lv_tableIn (tgt := 81) hx hb dX12_gains_13 (by decide) (by decide) rfl (by decide) ?_
    refine lv_iload_n hx hb dX12_gains_81 rfl (lv_at hl 0 rfl) ?_
    exact r_iret X hP hS dX12_gains_82 h
  have h := ifn c_11 h
  by_cases c_12 : r_4 = 5
  · have h := ifp c_12 h
    refine lv_ren c_12.symm ?_
    refine lv_tableIn (tgt := 77) hx hb dX12_gains_13 (by decide) (by decide) rfl (by decide) ?_
    refine lv_iconst (v := 2) hx hb dX12_gains_77 (by decide) ?_
    refine lv_iload_n hx hb dX12_gains_78 rfl (lv_at hl 0 rfl) ?_
    refine lv_imul hx hb dX12_gains_79 ?_
    exact r_iret X hP hS dX12_gains_80 h
  have h := ifn c_12 h
  refine lv_tableOut (tgt := 81) hx hb dX12_gains_13 (by have q1001 : r_4.toInt ≠ 1 := fun q => c_7 (Int32.toInt_inj.mp (q.trans (by decide)));  have q1002 : r_4.toInt ≠ 2 := fun q => c_8 (Int32.toInt_inj.mp (q.trans (by decide)));  have q1003 : r_4.toInt ≠ 3 := fun q => c_9 (Int32.toInt_inj.mp (q.trans (by decide)));  have q1004 : r_4.toInt ≠ 4 := fun q => c_11 (Int32.toInt_inj.mp (q.trans (by decide)));  have q1005 : r_4.toInt ≠ 5 := fun q => c_12 (Int32.toInt_inj.mp (q.trans (by decide)));  omega) (by decide) ?_
  refine lv_iload_n hx hb dX12_gains_81 rfl (lv_at hl 0 rfl) ?_
  exact r_iret X hP hS dX12_gains_82 h

def fX12_tires (a1 : Int32) (m : Mm) : Option (Int32 × Mm) := bd (fX12_its a1 (0 : Int32) m) fun r_1 m_2 => (if r_1 = 1 then some (3, m_2) else (if r_1 = 2 then some (1, m_2) else (if r_1 = 3 then some (1, m_2) else (if r_1 = 4 then some (2, m_2) else (if r_1 = 5 then some (3, m_2) else some (1, m_2))))))
set_option maxHeartbeats 4000000 in
set_option maxRecDepth 100000 in
theorem tX12_tires {l : Launch} {D : va_G} {cA : Nat → ClassId} {A : Nat → Nat} (hI : InjA rN A) {a1 : Int32} {m m' : Mm} {r : Int32} (h : fX12_tires a1 m = some (r, m')) : Met0 l yX12_tires cX12_tires 2 (some .int) { frames := 1, cells := 0, slots := 0, locals := 22 } rLay rN D cA A [.ref (A 0), .int a1] m (some (.int r)) m' := by
  refine met0_of (by decide) (Nat.le_of_ble_eq_true rfl) hI ?_
  intro p e s m0 below meth c ls X hinit hP hS hl
  generalize ([.ref (A 0), .int a1] : List Value).toArray = args at X ⊢
  have hl : lv_has ls 2 [(0, .ref (A 0)), (1, .int a1)] := hl
  have X : CX rLay rN D cA A p s m0 args meth c "BenchTowelsModel" cX12_tires 2 (some .int) := X
  have hx := X.1
  have hb := X.2.1
  have hml := X.2.2.1
  have hown := X.2.2.2.1
  have hts := X.2.2.2.2.1
  have hF := X.2.2.2.2.2.2.2.2.1
  rewrite [fX12_tires] at h
  refine lv_aload_n hx hb dX12_tires_0 rfl (lv_at hl 0 rfl) ?_
  refine lv_iload_n hx hb dX12_tires_1 rfl (lv_at hl 1 rfl) ?_
  refine lv_iconst (v := 0) hx hb dX12_tires_2 (by decide) ?_
  obtain ⟨r_1, m_2, hc_3, h⟩ := bd_some h
  refine c_V (rest := []) X hP hS (tX12_its hI  hc_3) (by decide) (L_ref _) rfl wt_6_76 wt_6_78 ws_2_10 wt_1_13 wt_6_79 ⟨rfl, hy_X12_its⟩ ⟨rfl, rfl⟩ ⟨Nat.le_of_ble_eq_true rfl, Nat.le_of_ble_eq_true rfl⟩ rfl hl.1 rfl (Nat.le_of_ble_eq_true rfl) dX12_tires_3 rfl (fun H locs hP hS => ?_)
  by_cases c_4 : r_1 = 1
  · have h := ifp c_4 h
    refine lv_ren c_4.symm ?_
    refine lv_tableIn (tgt := 40) hx hb dX12_tires_6 (by decide) (by decide) rfl (by decide) ?_
    refine lv_iconst (v := 3) hx hb dX12_tires_40 (by decide) ?_
    exact r_iret X hP hS dX12_tires_41 h
  have h := ifn c_4 h
  by_cases c_5 : r_1 = 2
  · have h := ifp c_5 h
    refine lv_ren c_5.symm ?_
    refine lv_tableIn (tgt := 44) hx hb dX12_tires_6 (by decide) (by decide) rfl (by decide) ?_
    refine lv_iconst (v := 1) hx hb dX12_tires_44 (by decide) ?_
    exact r_iret X hP hS dX12_tires_45 h
  have h := ifn c_5 h
  by_cases c_6 : r_1 = 3
  · have h := ifp c_6 h
    refine lv_ren c_6.symm ?_
    refine lv_tableIn (tgt := 44) hx hb dX12_tires_6 (by decide) (by decide) rfl (by decide) ?_
    refine lv_iconst (v := 1) hx hb dX12_tires_44 (by decide) ?_
    exact r_iret X hP hS dX12_tires_45 h
  have h := ifn c_6 h
  by_cases c_7 : r_1 = 4
  · have h := ifp c_7 h
    refine lv_ren c_7.symm ?_
    refine lv_tableIn (tgt := 42) hx hb dX12_tires_6 (by decide) (by decide) rfl (by decide) ?_
    refine lv_iconst (v := 2) hx hb dX12_tires_42 (by decide) ?_
    exact r_iret X hP hS dX12_tires_43 h
  have h := ifn c_7 h
  by_cases c_8 : r_1 = 5
  · have h := ifp c_8 h
    refine lv_ren c_8.symm ?_
    refine lv_tableIn (tgt := 40) hx hb dX12_tires_6 (by decide) (by decide) rfl (by decide) ?_
    refine lv_iconst (v := 3) hx hb dX12_tires_40 (by decide) ?_
    exact r_iret X hP hS dX12_tires_41 h
  have h := ifn c_8 h
  refine lv_tableOut (tgt := 44) hx hb dX12_tires_6 (by have q1001 : r_1.toInt ≠ 1 := fun q => c_4 (Int32.toInt_inj.mp (q.trans (by decide)));  have q1002 : r_1.toInt ≠ 2 := fun q => c_5 (Int32.toInt_inj.mp (q.trans (by decide)));  have q1003 : r_1.toInt ≠ 3 := fun q => c_6 (Int32.toInt_inj.mp (q.trans (by decide)));  have q1004 : r_1.toInt ≠ 4 := fun q => c_7 (Int32.toInt_inj.mp (q.trans (by decide)));  have q1005 : r_1.toInt ≠ 5 := fun q => c_8 (Int32.toInt_inj.mp (q.trans (by decide)));  omega) (by decide) ?_
  refine lv_iconst (v := 1) hx hb dX12_tires_44 (by decide) ?_
  exact r_iret X hP hS dX12_tires_45 h

def fX12_isUnder_19  (x0 : Int32) (x1 : Int32) (m : Mm) : Option (Int32 × Mm) := (if x1 = 4 then (if x0 = 5 then some (1, m) else some (0, m)) else some (0, m))
set_option maxHeartbeats 4000000 in
set_option maxRecDepth 100000 in
theorem tX12_isUnder_19 (hI : InjA rN A)  {r : Int32} {m' : Mm} (X : CX rLay rN D cA A p s m0 args meth c "BenchTowelsModel" cX12_isUnder 2 (some .boolean)) : ∀ (x0 : Int32) (x1 : Int32) (m : Mm) (H : Heap) (locs : List Loc) (ls : Array Slot), fX12_isUnder_19 x0 x1 m = some (r, m') → va_P D vwCl (wsOf rLay rN cA A m) H → va_S (AW rN A) s.heap H locs → lv_has ls 2 [(0, .int x0), (1, .int x1)] → W p l e { frames := 0, cells := 0, slots := 0, locals := 0 } s m0 args below meth c H locs 0 0 (ZR below args s rLay rN D cA A (some (.int r)) m') (F0 m0 19 ls []) := by
  have hx := X.1
  have hb := X.2.1
  have hml := X.2.2.1
  have hown := X.2.2.2.1
  have hts := X.2.2.2.2.1
  have hF := X.2.2.2.2.2.2.2.2.1
  intro x0 x1 m H locs ls h hP hS hl
  rewrite [fX12_isUnder_19] at h
  refine lv_iload_n hx hb dX12_isUnder_19 rfl (lv_at hl 1 rfl) ?_
  refine lv_iconst (v := 4) hx hb dX12_isUnder_20 (by decide) ?_
  refine lv_icmp_ne (tgt := 33) hx hb dX12_isUnder_21 (by decide) (fun c_4 => ?_) (fun c_4 => ?_)
  · have h := ifn c_4 h
    refine lv_iconst (v := 0) hx hb dX12_isUnder_33 (by decide) ?_
    exact r_zret X (Or.inl rfl) hP hS dX12_isUnder_34 h
  · have h := ifp c_4 h
    refine lv_iload_n hx hb dX12_isUnder_24 rfl (lv_at hl 0 rfl) ?_
    refine lv_iconst (v := 5) hx hb dX12_isUnder_25 (by decide) ?_
    refine lv_icmp_ne (tgt := 33) hx hb dX12_isUnder_26 (by decide) (fun c_5 => ?_) (fun c_5 => ?_)
    · have h := ifn c_5 h
      refine lv_iconst (v := 0) hx hb dX12_isUnder_33 (by decide) ?_
      exact r_zret X (Or.inl rfl) hP hS dX12_isUnder_34 h
    · have h := ifp c_5 h
      refine lv_iconst (v := 1) hx hb dX12_isUnder_29 (by decide) ?_
      refine lv_goto (tgt := 34) hx hb dX12_isUnder_30 (by decide) ?_
      exact r_zret X (Or.inr rfl) hP hS dX12_isUnder_34 h

def fX12_isUnder (a1 : Int32) (a2 : Int32) (m : Mm) : Option (Int32 × Mm) := (if a2 = 0 then some (1, m) else (if a1 = a2 then some (1, m) else (if a2 = 2 then (if a1 = 3 then some (1, m) else fX12_isUnder_19  a1 a2 m) else fX12_isUnder_19  a1 a2 m)))
set_option maxHeartbeats 4000000 in
set_option maxRecDepth 100000 in
theorem tX12_isUnder {l : Launch} {D : va_G} {cA : Nat → ClassId} {A : Nat → Nat} (hI : InjA rN A) {a1 : Int32} {a2 : Int32} {m m' : Mm} {r : Int32} (h : fX12_isUnder a1 a2 m = some (r, m')) : Met0 l yX12_isUnder cX12_isUnder 2 (some .boolean) { frames := 0, cells := 0, slots := 0, locals := 0 } rLay rN D cA A [.int a1, .int a2] m (some (.int r)) m' := by
  refine met0_of (by decide) (Nat.le_of_ble_eq_true rfl) hI ?_
  intro p e s m0 below meth c ls X hinit hP hS hl
  generalize ([.int a1, .int a2] : List Value).toArray = args at X ⊢
  have hl : lv_has ls 2 [(0, .int a1), (1, .int a2)] := hl
  have X : CX rLay rN D cA A p s m0 args meth c "BenchTowelsModel" cX12_isUnder 2 (some .boolean) := X
  have hx := X.1
  have hb := X.2.1
  have hml := X.2.2.1
  have hown := X.2.2.2.1
  have hts := X.2.2.2.2.1
  have hF := X.2.2.2.2.2.2.2.2.1
  rewrite [fX12_isUnder] at h
  refine lv_iload_n hx hb dX12_isUnder_0 rfl (lv_at hl 1 rfl) ?_
  refine lv_if_eq (tgt := 29) hx hb dX12_isUnder_1 (by decide) (fun c_1 => ?_) (fun c_1 => ?_)
  · have h := ifp c_1 h
    refine lv_iconst (v := 1) hx hb dX12_isUnder_29 (by decide) ?_
    refine lv_goto (tgt := 34) hx hb dX12_isUnder_30 (by decide) ?_
    exact r_zret X (Or.inr rfl) hP hS dX12_isUnder_34 h
  · have h := ifn c_1 h
    refine lv_iload_n hx hb dX12_isUnder_4 rfl (lv_at hl 0 rfl) ?_
    refine lv_iload_n hx hb dX12_isUnder_5 rfl (lv_at hl 1 rfl) ?_
    refine lv_icmp_eq (tgt := 29) hx hb dX12_isUnder_6 (by decide) (fun c_2 => ?_) (fun c_2 => ?_)
    · have h := ifp c_2 h
      refine lv_iconst (v := 1) hx hb dX12_isUnder_29 (by decide) ?_
      refine lv_goto (tgt := 34) hx hb dX12_isUnder_30 (by decide) ?_
      exact r_zret X (Or.inr rfl) hP hS dX12_isUnder_34 h
    · have h := ifn c_2 h
      refine lv_iload_n hx hb dX12_isUnder_9 rfl (lv_at hl 1 rfl) ?_
      refine lv_iconst (v := 2) hx hb dX12_isUnder_10 (by decide) ?_
      refine lv_icmp_ne (tgt := 19) hx hb dX12_isUnder_11 (by decide) (fun c_3 => ?_) (fun c_3 => ?_)
      · have h := ifn c_3 h
        exact tX12_isUnder_19 hI    X a1 a2 m _ _ _  h hP hS (lv_sub hl [0, 1] rfl)
      · have h := ifp c_3 h
        refine lv_iload_n hx hb dX12_isUnder_14 rfl (lv_at hl 0 rfl) ?_
        refine lv_iconst (v := 3) hx hb dX12_isUnder_15 (by decide) ?_
        refine lv_icmp_eq (tgt := 29) hx hb dX12_isUnder_16 (by decide) (fun c_6 => ?_) (fun c_6 => ?_)
        · have h := ifp c_6 h
          refine lv_iconst (v := 1) hx hb dX12_isUnder_29 (by decide) ?_
          refine lv_goto (tgt := 34) hx hb dX12_isUnder_30 (by decide) ?_
          exact r_zret X (Or.inr rfl) hP hS dX12_isUnder_34 h
        · have h := ifn c_6 h
          exact tX12_isUnder_19 hI    X a1 a2 m _ _ _  h hP hS (lv_sub hl [0, 1] rfl)

def fX12_valueOf (a1 : Int32) (a2 : Int32) (m : Mm) : Option (Int32 × Mm) := lt (a1 - 10000) fun x_1 => (if x_1 = 0 then some ((m 1 1), m) else (if x_1 = 1 then bd (fX12_its a2 (2 : Int32) m) fun r_5 m_6 => some (r_5, m_6) else (if x_1 = 2 then bd (fX12_its a2 (3 : Int32) m) fun r_9 m_10 => gx ((38 : Int32) + r_9) 553 (some ((m_10 1 (ix ((38 : Int32) + r_9))), m_10)) else (if x_1 = 3 then bd (fX12_its a2 (4 : Int32) m) fun r_14 m_15 => some (r_14, m_15) else (if x_1 = 4 then some (a2, m) else some (a1, m))))))
set_option maxHeartbeats 4000000 in
set_option maxRecDepth 100000 in
theorem tX12_valueOf {l : Launch} {D : va_G} {cA : Nat → ClassId} {A : Nat → Nat} (hI : InjA rN A) {a1 : Int32} {a2 : Int32} {m m' : Mm} {r : Int32} (h : fX12_valueOf a1 a2 m = some (r, m')) : Met0 l yX12_valueOf cX12_valueOf 3 (some .int) { frames := 1, cells := 0, slots := 0, locals := 22 } rLay rN D cA A [.ref (A 0), .int a1, .int a2] m (some (.int r)) m' := by
  refine met0_of (by decide) (Nat.le_of_ble_eq_true rfl) hI ?_
  intro p e s m0 below meth c ls X hinit hP hS hl
  generalize ([.ref (A 0), .int a1, .int a2] : List Value).toArray = args at X ⊢
  have hl : lv_has ls 3 [(0, .ref (A 0)), (1, .int a1), (2, .int a2)] := hl
  have X : CX rLay rN D cA A p s m0 args meth c "BenchTowelsModel" cX12_valueOf 3 (some .int) := X
  have hx := X.1
  have hb := X.2.1
  have hml := X.2.2.1
  have hown := X.2.2.2.1
  have hts := X.2.2.2.2.1
  have hF := X.2.2.2.2.2.2.2.2.1
  rewrite [fX12_valueOf] at h
  refine lv_iload_n hx hb dX12_valueOf_0 rfl (lv_at hl 1 rfl) ?_
  refine lv_sipush (v := 10000) hx hb dX12_valueOf_1 (by decide) ?_
  refine lv_isub hx hb dX12_valueOf_4 ?_
  obtain ⟨x_1, ex_2, h⟩ := lt_some h
  refine lv_ren ex_2 ?_
  by_cases c_3 : x_1 = 0
  · have h := ifp c_3 h
    refine lv_ren c_3.symm ?_
    refine lv_tableIn (tgt := 40) hx hb dX12_valueOf_5 (by decide) (by decide) rfl (by decide) ?_
    refine lv_aload_n hx hb dX12_valueOf_40 rfl (lv_at hl 0 rfl) ?_
    refine r_get kc_12 0 X hP (by decide) (L_ref _) (by decide) rfl wt_5_172 dX12_valueOf_41 ?_
    refine lv_iconst (v := 1) hx hb dX12_valueOf_44 (by decide) ?_
    refine r_iald X hP (by decide) (Lr_1 _) (vpc (by decide)) ixc_1 dX12_valueOf_45 ?_
    exact r_iret X hP hS dX12_valueOf_46 h
  have h := ifn c_3 h
  by_cases c_4 : x_1 = 1
  · have h := ifp c_4 h
    refine lv_ren c_4.symm ?_
    refine lv_tableIn (tgt := 47) hx hb dX12_valueOf_5 (by decide) (by decide) rfl (by decide) ?_
    refine lv_aload_n hx hb dX12_valueOf_47 rfl (lv_at hl 0 rfl) ?_
    refine lv_iload_n hx hb dX12_valueOf_48 rfl (lv_at hl 2 rfl) ?_
    refine lv_iconst (v := 2) hx hb dX12_valueOf_49 (by decide) ?_
    obtain ⟨r_5, m_6, hc_7, h⟩ := bd_some h
    refine c_V (rest := []) X hP hS (tX12_its hI  hc_7) (by decide) (L_ref _) rfl wt_6_76 wt_6_78 ws_2_10 wt_1_13 wt_6_79 ⟨rfl, hy_X12_its⟩ ⟨rfl, rfl⟩ ⟨Nat.le_of_ble_eq_true rfl, Nat.le_of_ble_eq_true rfl⟩ rfl hl.1 rfl (Nat.le_of_ble_eq_true rfl) dX12_valueOf_50 rfl (fun H locs hP hS => ?_)
    exact r_iret X hP hS dX12_valueOf_53 h
  have h := ifn c_4 h
  by_cases c_8 : x_1 = 2
  · have h := ifp c_8 h
    refine lv_ren c_8.symm ?_
    refine lv_tableIn (tgt := 54) hx hb dX12_valueOf_5 (by decide) (by decide) rfl (by decide) ?_
    refine lv_aload_n hx hb dX12_valueOf_54 rfl (lv_at hl 0 rfl) ?_
    refine r_get kc_12 0 X hP (by decide) (L_ref _) (by decide) rfl wt_5_172 dX12_valueOf_55 ?_
    refine lv_bipush (v := 38) hx hb dX12_valueOf_58 (by decide) ?_
    refine lv_aload_n hx hb dX12_valueOf_60 rfl (lv_at hl 0 rfl) ?_
    refine lv_iload_n hx hb dX12_valueOf_61 rfl (lv_at hl 2 rfl) ?_
    refine lv_iconst (v := 3) hx hb dX12_valueOf_62 (by decide) ?_
    obtain ⟨r_9, m_10, hc_11, h⟩ := bd_some h
    refine c_V (rest := [.int 38, .ref (A 1)]) X hP hS (tX12_its hI  hc_11) (by decide) (L_ref _) rfl wt_6_76 wt_6_78 ws_2_10 wt_1_13 wt_6_79 ⟨rfl, hy_X12_its⟩ ⟨rfl, rfl⟩ ⟨Nat.le_of_ble_eq_true rfl, Nat.le_of_ble_eq_true rfl⟩ rfl hl.1 rfl (Nat.le_of_ble_eq_true rfl) dX12_valueOf_63 rfl (fun H locs hP hS => ?_)
    refine lv_iadd hx hb dX12_valueOf_66 ?_
    obtain ⟨hin_12, h⟩ := gx_some h
    refine r_iald X hP (by decide) (Lr_1 _) hin_12 rfl dX12_valueOf_67 ?_
    exact r_iret X hP hS dX12_valueOf_68 h
  have h := ifn c_8 h
  by_cases c_13 : x_1 = 3
  · have h := ifp c_13 h
    refine lv_ren c_13.symm ?_
    refine lv_tableIn (tgt := 69) hx hb dX12_valueOf_5 (by decide) (by decide) rfl (by decide) ?_
    refine lv_aload_n hx hb dX12_valueOf_69 rfl (lv_at hl 0 rfl) ?_
    refine lv_iload_n hx hb dX12_valueOf_70 rfl (lv_at hl 2 rfl) ?_
    refine lv_iconst (v := 4) hx hb dX12_valueOf_71 (by decide) ?_
    obtain ⟨r_14, m_15, hc_16, h⟩ := bd_some h
    refine c_V (rest := []) X hP hS (tX12_its hI  hc_16) (by decide) (L_ref _) rfl wt_6_76 wt_6_78 ws_2_10 wt_1_13 wt_6_79 ⟨rfl, hy_X12_its⟩ ⟨rfl, rfl⟩ ⟨Nat.le_of_ble_eq_true rfl, Nat.le_of_ble_eq_true rfl⟩ rfl hl.1 rfl (Nat.le_of_ble_eq_true rfl) dX12_valueOf_72 rfl (fun H locs hP hS => ?_)
    exact r_iret X hP hS dX12_valueOf_75 h
  have h := ifn c_13 h
  by_cases c_17 : x_1 = 4
  · have h := ifp c_17 h
    refine lv_ren c_17.symm ?_
    refine lv_tableIn (tgt := 76) hx hb dX12_valueOf_5 (by decide) (by decide) rfl (by decide) ?_
    refine lv_iload_n hx hb dX12_valueOf_76 rfl (lv_at hl 2 rfl) ?_
    exact r_iret X hP hS dX12_valueOf_77 h
  have h := ifn c_17 h
  refine lv_tableOut (tgt := 78) hx hb dX12_valueOf_5 (by have q1000 : x_1.toInt ≠ 0 := fun q => c_3 (Int32.toInt_inj.mp (q.trans (by decide)));  have q1001 : x_1.toInt ≠ 1 := fun q => c_4 (Int32.toInt_inj.mp (q.trans (by decide)));  have q1002 : x_1.toInt ≠ 2 := fun q => c_8 (Int32.toInt_inj.mp (q.trans (by decide)));  have q1003 : x_1.toInt ≠ 3 := fun q => c_13 (Int32.toInt_inj.mp (q.trans (by decide)));  have q1004 : x_1.toInt ≠ 4 := fun q => c_17 (Int32.toInt_inj.mp (q.trans (by decide)));  omega) (by decide) ?_
  refine lv_iload_n hx hb dX12_valueOf_78 rfl (lv_at hl 1 rfl) ?_
  exact r_iret X hP hS dX12_valueOf_79 h

def fX12_holds_167 (K17 : Int32 → Int32 → Int64 → Int32 → Mm → Option (Int32 × Mm)) (x1 : Int32) (x2 : Int32) (x5 : Int32) (s0 : Int64) (s1 : Int64) (m : Mm) : Option (Int32 × Mm) := lt ((s1 + s0) : Int64) fun x3_44 => lt ((x5 : Int32) + 1) fun x5_46 => (K17 x1 x2 x3_44 x5_46 m)
set_option maxHeartbeats 4000000 in
set_option maxRecDepth 100000 in
theorem tX12_holds_167 (hI : InjA rN A)  {r : Int32} {m' : Mm} {K17 : Int32 → Int32 → Int64 → Int32 → Mm → Option (Int32 × Mm)} (hK17 : ∀ (x1 : Int32) (x2 : Int32) (x3 : Int64) (x5 : Int32) (m : Mm) (H : Heap) (locs : List Loc) (ls : Array Slot), K17 x1 x2 x3 x5 m = some (r, m') → va_P D vwCl (wsOf rLay rN cA A m) H → va_S (AW rN A) s.heap H locs → lv_has ls 10 [(0, .ref (A 0)), (1, .int x1), (2, .int x2), (3, .long x3), (5, .int x5)] → W p l e { frames := 2, cells := 0, slots := 0, locals := 44 } s m0 args below meth c H locs 0 0 (ZR below args s rLay rN D cA A (some (.int r)) m') (F0 m0 17 ls [])) (X : CX rLay rN D cA A p s m0 args meth c "BenchTowelsModel" cX12_holds 10 (some .boolean)) : ∀ (x1 : Int32) (x2 : Int32) (x5 : Int32) (s0 : Int64) (s1 : Int64) (m : Mm) (H : Heap) (locs : List Loc) (ls : Array Slot), fX12_holds_167 K17 x1 x2 x5 s0 s1 m = some (r, m') → va_P D vwCl (wsOf rLay rN cA A m) H → va_S (AW rN A) s.heap H locs → lv_has ls 10 [(0, .ref (A 0)), (1, .int x1), (2, .int x2), (5, .int x5)] → W p l e { frames := 2, cells := 0, slots := 0, locals := 44 } s m0 args below meth c H locs 0 0 (ZR below args s rLay rN D cA A (some (.int r)) m') (F0 m0 167 ls [.long s0, .long s1]) := by
  have hx := X.1
  have hb := X.2.1
  have hml := X.2.2.1
  have hown := X.2.2.2.1
  have hts := X.2.2.2.2.1
  have hF := X.2.2.2.2.2.2.2.2.1
  intro x1 x2 x5 s0 s1 m H locs ls h hP hS hl
  rewrite [fX12_holds_167] at h
  refine lv_ladd hx hb dX12_holds_167 ?_
  obtain ⟨x3_44, ex_45, h⟩ := lt_some h
  refine lv_renl ex_45 ?_
  refine lv_lstore_n (lv' := [(3, .long x3_44), (0, .ref (A 0)), (1, .int x1), (2, .int x2), (5, .int x5)]) hx hb dX12_holds_168 rfl hl (by decide) rfl (fun ls hl => ?_)
  refine lv_goto (tgt := 226) hx hb dX12_holds_169 (by decide) ?_
  obtain ⟨x5_46, ex_47, h⟩ := lt_some h
  refine lv_iinc (v := x5_46) (lv' := [(5, .int x5_46), (3, .long x3_44), (0, .ref (A 0)), (1, .int x1), (2, .int x2)]) hx hb dX12_holds_226 hl (k := 4) rfl (by rw [ex_47]; rfl) (by decide) rfl (fun ls hl => ?_)
  refine lv_goto (tgt := 17) hx hb dX12_holds_229 (by decide) ?_
  exact hK17 x1 x2 x3_44 x5_46 m _ _ _ h hP hS (lv_sub hl [2, 3, 4, 1, 0] rfl)

def fX12_holds_150 (K17 : Int32 → Int32 → Int64 → Int32 → Mm → Option (Int32 × Mm)) (x1 : Int32) (x2 : Int32) (x3 : Int64) (x5 : Int32) (s0 : Int32) (m : Mm) : Option (Int32 × Mm) := (if s0 = 0 then (fX12_holds_167 K17 x1 x2 x5 0 ((2 : Int64) * x3) m) else (fX12_holds_167 K17 x1 x2 x5 1 ((2 : Int64) * x3) m))
set_option maxHeartbeats 4000000 in
set_option maxRecDepth 100000 in
theorem tX12_holds_150 (hI : InjA rN A)  {r : Int32} {m' : Mm} {K17 : Int32 → Int32 → Int64 → Int32 → Mm → Option (Int32 × Mm)} (hK17 : ∀ (x1 : Int32) (x2 : Int32) (x3 : Int64) (x5 : Int32) (m : Mm) (H : Heap) (locs : List Loc) (ls : Array Slot), K17 x1 x2 x3 x5 m = some (r, m') → va_P D vwCl (wsOf rLay rN cA A m) H → va_S (AW rN A) s.heap H locs → lv_has ls 10 [(0, .ref (A 0)), (1, .int x1), (2, .int x2), (3, .long x3), (5, .int x5)] → W p l e { frames := 2, cells := 0, slots := 0, locals := 44 } s m0 args below meth c H locs 0 0 (ZR below args s rLay rN D cA A (some (.int r)) m') (F0 m0 17 ls [])) (X : CX rLay rN D cA A p s m0 args meth c "BenchTowelsModel" cX12_holds 10 (some .boolean)) : ∀ (x1 : Int32) (x2 : Int32) (x3 : Int64) (x5 : Int32) (s0 : Int32) (m : Mm) (H : Heap) (locs : List Loc) (ls : Array Slot), fX12_holds_150 K17 x1 x2 x3 x5 s0 m = some (r, m') → va_P D vwCl (wsOf rLay rN cA A m) H → va_S (AW rN A) s.heap H locs → lv_has ls 10 [(0, .ref (A 0)), (1, .int x1), (2, .int x2), (3, .long x3), (5, .int x5)] → W p l e { frames := 2, cells := 0, slots := 0, locals := 44 } s m0 args below meth c H locs 0 0 (ZR below args s rLay rN D cA A (some (.int r)) m') (F0 m0 150 ls [.int s0]) := by
  have hx := X.1
  have hb := X.2.1
  have hml := X.2.2.1
  have hown := X.2.2.2.1
  have hts := X.2.2.2.2.1
  have hF := X.2.2.2.2.2.2.2.2.1
  intro x1 x2 x3 x5 s0 m H locs ls h hP hS hl
  rewrite [fX12_holds_150] at h
  refine lv_istore (lv' := [(9, .int s0), (0, .ref (A 0)), (1, .int x1), (2, .int x2), (3, .long x3), (5, .int x5)]) hx hb dX12_holds_150 hl (by decide) rfl (fun ls hl => ?_)
  refine lv_ldc2 (v := 2) hx hb hown (hts _ wt_6_62) dX12_holds_152 ?_
  refine lv_lload_n hx hb dX12_holds_155 rfl (lv_at hl 4 rfl) ?_
  refine lv_lmul hx hb dX12_holds_156 ?_
  refine lv_iload hx hb dX12_holds_157 (lv_at hl 0 rfl) ?_
  refine lv_if_eq (tgt := 166) hx hb dX12_holds_159 (by decide) (fun c_43 => ?_) (fun c_43 => ?_)
  · have h := ifp c_43 h
    refine lv_lconst (v := 0) hx hb dX12_holds_166 (by decide) ?_
    exact tX12_holds_167 hI   hK17 X x1 x2 x5 0 ((2 : Int64) * x3) m _ _ _  h hP hS (lv_sub hl [1, 2, 3, 5] rfl)
  · have h := ifn c_43 h
    refine lv_lconst (v := 1) hx hb dX12_holds_162 (by decide) ?_
    refine lv_goto (tgt := 167) hx hb dX12_holds_163 (by decide) ?_
    exact tX12_holds_167 hI   hK17 X x1 x2 x5 1 ((2 : Int64) * x3) m _ _ _  h hP hS (lv_sub hl [1, 2, 3, 5] rfl)

def fX12_holds_17  : Nat → Int32 → Int32 → Int64 → Int32 → Mm → Option (Int32 × Mm)
  | 0, _, _, _, _, _ => none
  | n + 1, x1, x2, x3, x5, m => gx (((53 : Int32) + ((4 : Int32) * x1)) + 3) 553 ((if ((m 1 (ix (((53 : Int32) + ((4 : Int32) * x1)) + 3))) : Int32) ≤ x5 then (if (lg_cmp (x3 - x3 / 2 * 2) 1) = 0 then some (1, m) else some (0, m)) else gx ((103 : Int32) + ((3 : Int32) * x5)) 553 (lt (m 1 (ix ((103 : Int32) + ((3 : Int32) * x5)))) fun x6_8 => (if (3 : Int32) ≤ x6_8 then (if x6_8 = 3 then lt ((x3 ^^^ 1) : Int64) fun x3_28 => lt ((x5 : Int32) + 1) fun x5_30 => (fX12_holds_17 n x1 x2 x3_28 x5_30 m) else lt ((x3 &&& 1) : Int64) fun x7_12 => lt ((x3 / 2) : Int64) fun x3_14 => (if x6_8 = 4 then (if (lg_cmp x7_12 1) = 0 then lt ((x5 : Int32) + 1) fun x5_22 => (fX12_holds_17 n x1 x2 x3_14 x5_22 m) else lt ((x3_14 &&& (-2)) : Int64) fun x3_18 => lt ((x5 : Int32) + 1) fun x5_20 => (fX12_holds_17 n x1 x2 x3_18 x5_20 m)) else lt ((x3_14 ||| x7_12) : Int64) fun x3_24 => lt ((x5 : Int32) + 1) fun x5_26 => (fX12_holds_17 n x1 x2 x3_24 x5_26 m))) else gx (((103 : Int32) + ((3 : Int32) * x5)) + 1) 553 (bd (fX12_valueOf (m 1 (ix (((103 : Int32) + ((3 : Int32) * x5)) + 1))) x2 m) fun r_33 m_34 => gx (((103 : Int32) + ((3 : Int32) * x5)) + 2) 553 (bd (fX12_valueOf (m_34 1 (ix (((103 : Int32) + ((3 : Int32) * x5)) + 2))) x2 m_34) fun r_37 m_38 => (if x6_8 = 0 then (if (r_37 : Int32) ≤ r_33 then (fX12_holds_150 (fun x1 x2 x3 x5 m => fX12_holds_17 n x1 x2 x3 x5 m) x1 x2 x3 x5 0 m_38) else (fX12_holds_150 (fun x1 x2 x3 x5 m => fX12_holds_17 n x1 x2 x3 x5 m) x1 x2 x3 x5 1 m_38)) else (if x6_8 = 1 then (if r_33 = r_37 then (fX12_holds_150 (fun x1 x2 x3 x5 m => fX12_holds_17 n x1 x2 x3 x5 m) x1 x2 x3 x5 1 m_38) else (fX12_holds_150 (fun x1 x2 x3 x5 m => fX12_holds_17 n x1 x2 x3 x5 m) x1 x2 x3 x5 0 m_38)) else (if r_33 ≤ r_37 then (fX12_holds_150 (fun x1 x2 x3 x5 m => fX12_holds_17 n x1 x2 x3 x5 m) x1 x2 x3 x5 0 m_38) else (fX12_holds_150 (fun x1 x2 x3 x5 m => fX12_holds_17 n x1 x2 x3 x5 m) x1 x2 x3 x5 1 m_38))))))))))
set_option maxHeartbeats 4000000 in
set_option maxRecDepth 100000 in
theorem tX12_holds_17 (hI : InjA rN A)  {r : Int32} {m' : Mm} (X : CX rLay rN D cA A p s m0 args meth c "BenchTowelsModel" cX12_holds 10 (some .boolean)) : ∀ (n : Nat) (x1 : Int32) (x2 : Int32) (x3 : Int64) (x5 : Int32) (m : Mm) (H : Heap) (locs : List Loc) (ls : Array Slot), fX12_holds_17 n x1 x2 x3 x5 m = some (r, m') → va_P D vwCl (wsOf rLay rN cA A m) H → va_S (AW rN A) s.heap H locs → lv_has ls 10 [(0, .ref (A 0)), (1, .int x1), (2, .int x2), (3, .long x3), (5, .int x5)] → W p l e { frames := 2, cells := 0, slots := 0, locals := 44 } s m0 args below meth c H locs 0 0 (ZR below args s rLay rN D cA A (some (.int r)) m') (F0 m0 17 ls []) := by
  have hx := X.1
  have hb := X.2.1
  have hml := X.2.2.1
  have hown := X.2.2.2.1
  have hts := X.2.2.2.2.1
  have hF := X.2.2.2.2.2.2.2.2.1
  intro n
  induction n with
  | zero =>
    intro x1 x2 x3 x5 m H locs ls h hP hS hl
    exact absurd h (by rewrite [fX12_holds_17]; exact fun q => by cases q)
  | succ n ih =>
    intro x1 x2 x3 x5 m H locs ls h hP hS hl
    rewrite [fX12_holds_17] at h
    refine lv_iload hx hb dX12_holds_17 (lv_at hl 4 rfl) ?_
    refine lv_aload_n hx hb dX12_holds_19 rfl (lv_at hl 0 rfl) ?_
    refine r_get kc_12 0 X hP (by decide) (L_ref _) (by decide) rfl wt_5_172 dX12_holds_20 ?_
    refine lv_bipush (v := 53) hx hb dX12_holds_23 (by decide) ?_
    refine lv_iconst (v := 4) hx hb dX12_holds_25 (by decide) ?_
    refine lv_iload_n hx hb dX12_holds_26 rfl (lv_at hl 1 rfl) ?_
    refine lv_imul hx hb dX12_holds_27 ?_
    refine lv_iadd hx hb dX12_holds_28 ?_
    refine lv_iconst (v := 3) hx hb dX12_holds_29 (by decide) ?_
    refine lv_iadd hx hb dX12_holds_30 ?_
    obtain ⟨hin_4, h⟩ := gx_some h
    refine r_iald X hP (by decide) (Lr_1 _) hin_4 rfl dX12_holds_31 ?_
    refine lv_icmp_ge (tgt := 232) hx hb dX12_holds_32 (by decide) (fun c_5 => ?_) (fun c_5 => ?_)
    · have h := ifp c_5 h
      refine lv_lload_n hx hb dX12_holds_232 rfl (lv_at hl 3 rfl) ?_
      refine lv_ldc2 (v := 2) hx hb hown (hts _ wt_6_62) dX12_holds_233 ?_
      refine lv_lrem hx hb dX12_holds_236 (by decide) ?_
      refine lv_lconst (v := 1) hx hb dX12_holds_237 (by decide) ?_
      refine W.lcmp hx hb dX12_holds_238 ?_
      refine lv_if_ne (tgt := 246) hx hb dX12_holds_239 (by decide) (fun c_6 => ?_) (fun c_6 => ?_)
      · have h := ifn c_6 h
        refine lv_iconst (v := 0) hx hb dX12_holds_246 (by decide) ?_
        exact r_zret X (Or.inl rfl) hP hS dX12_holds_247 h
      · have h := ifp c_6 h
        refine lv_iconst (v := 1) hx hb dX12_holds_242 (by decide) ?_
        refine lv_goto (tgt := 247) hx hb dX12_holds_243 (by decide) ?_
        exact r_zret X (Or.inr rfl) hP hS dX12_holds_247 h
    · have h := ifn c_5 h
      refine lv_aload_n hx hb dX12_holds_35 rfl (lv_at hl 0 rfl) ?_
      refine r_get kc_12 0 X hP (by decide) (L_ref _) (by decide) rfl wt_5_172 dX12_holds_36 ?_
      refine lv_bipush (v := 103) hx hb dX12_holds_39 (by decide) ?_
      refine lv_iconst (v := 3) hx hb dX12_holds_41 (by decide) ?_
      refine lv_iload hx hb dX12_holds_42 (lv_at hl 4 rfl) ?_
      refine lv_imul hx hb dX12_holds_44 ?_
      refine lv_iadd hx hb dX12_holds_45 ?_
      obtain ⟨hin_7, h⟩ := gx_some h
      refine r_iald X hP (by decide) (Lr_1 _) hin_7 rfl dX12_holds_46 ?_
      obtain ⟨x6_8, ex_9, h⟩ := lt_some h
      refine lv_ren ex_9 ?_
      refine lv_istore (lv' := [(6, .int x6_8), (0, .ref (A 0)), (1, .int x1), (2, .int x2), (3, .long x3), (5, .int x5)]) hx hb dX12_holds_47 hl (by decide) rfl (fun ls hl => ?_)
      refine lv_iload hx hb dX12_holds_49 (lv_at hl 0 rfl) ?_
      refine lv_iconst (v := 3) hx hb dX12_holds_51 (by decide) ?_
      refine lv_icmp_ge (tgt := 172) hx hb dX12_holds_52 (by decide) (fun c_10 => ?_) (fun c_10 => ?_)
      · have h := ifp c_10 h
        refine lv_iload hx hb dX12_holds_172 (lv_at hl 0 rfl) ?_
        refine lv_iconst (v := 3) hx hb dX12_holds_174 (by decide) ?_
        refine lv_icmp_ne (tgt := 185) hx hb dX12_holds_175 (by decide) (fun c_11 => ?_) (fun c_11 => ?_)
        · have h := ifn c_11 h
          refine lv_lload_n hx hb dX12_holds_185 rfl (lv_at hl 4 rfl) ?_
          refine lv_lconst (v := 1) hx hb dX12_holds_186 (by decide) ?_
          refine lv_land hx hb dX12_holds_187 ?_
          obtain ⟨x7_12, ex_13, h⟩ := lt_some h
          refine lv_renl ex_13 ?_
          refine lv_lstore (lv' := [(7, .long x7_12), (6, .int x6_8), (0, .ref (A 0)), (1, .int x1), (2, .int x2), (3, .long x3), (5, .int x5)]) hx hb dX12_holds_188 hl (by decide) rfl (fun ls hl => ?_)
          refine lv_lload_n hx hb dX12_holds_190 rfl (lv_at hl 5 rfl) ?_
          refine lv_ldc2 (v := 2) hx hb hown (hts _ wt_6_62) dX12_holds_191 ?_
          refine lv_ldiv hx hb dX12_holds_194 (by decide) ?_
          obtain ⟨x3_14, ex_15, h⟩ := lt_some h
          refine lv_renl ex_15 ?_
          refine lv_lstore_n (lv' := [(3, .long x3_14), (7, .long x7_12), (6, .int x6_8), (0, .ref (A 0)), (1, .int x1), (2, .int x2), (5, .int x5)]) hx hb dX12_holds_195 rfl hl (by decide) rfl (fun ls hl => ?_)
          refine lv_iload hx hb dX12_holds_196 (lv_at hl 2 rfl) ?_
          refine lv_iconst (v := 4) hx hb dX12_holds_198 (by decide) ?_
          refine lv_icmp_eq (tgt := 209) hx hb dX12_holds_199 (by decide) (fun c_16 => ?_) (fun c_16 => ?_)
          · have h := ifp c_16 h
            refine lv_lload hx hb dX12_holds_209 (lv_at hl 1 rfl) ?_
            refine lv_lconst (v := 1) hx hb dX12_holds_211 (by decide) ?_
            refine W.lcmp hx hb dX12_holds_212 ?_
            refine lv_if_ne (tgt := 220) hx hb dX12_holds_213 (by decide) (fun c_17 => ?_) (fun c_17 => ?_)
            · have h := ifn c_17 h
              refine lv_lload_n hx hb dX12_holds_220 rfl (lv_at hl 0 rfl) ?_
              refine lv_ldc2 (v := (-2)) hx hb hown (hts _ wt_6_107) dX12_holds_221 ?_
              refine lv_land hx hb dX12_holds_224 ?_
              obtain ⟨x3_18, ex_19, h⟩ := lt_some h
              refine lv_renl ex_19 ?_
              refine lv_lstore_n (lv' := [(3, .long x3_18), (7, .long x7_12), (6, .int x6_8), (0, .ref (A 0)), (1, .int x1), (2, .int x2), (5, .int x5)]) hx hb dX12_holds_225 rfl hl (by decide) rfl (fun ls hl => ?_)
              obtain ⟨x5_20, ex_21, h⟩ := lt_some h
              refine lv_iinc (v := x5_20) (lv' := [(5, .int x5_20), (3, .long x3_18), (7, .long x7_12), (6, .int x6_8), (0, .ref (A 0)), (1, .int x1), (2, .int x2)]) hx hb dX12_holds_226 hl (k := 6) rfl (by rw [ex_21]; rfl) (by decide) rfl (fun ls hl => ?_)
              refine lv_goto (tgt := 17) hx hb dX12_holds_229 (by decide) ?_
              exact ih x1 x2 x3_18 x5_20 m _ _ _  h hP hS (lv_sub hl [4, 5, 6, 1, 0] rfl)
            · have h := ifp c_17 h
              refine lv_lload_n hx hb dX12_holds_216 rfl (lv_at hl 0 rfl) ?_
              refine lv_goto (tgt := 225) hx hb dX12_holds_217 (by decide) ?_
              refine lv_lstore_n (lv' := [(3, .long x3_14), (7, .long x7_12), (6, .int x6_8), (0, .ref (A 0)), (1, .int x1), (2, .int x2), (5, .int x5)]) hx hb dX12_holds_225 rfl hl (by decide) rfl (fun ls hl => ?_)
              obtain ⟨x5_22, ex_23, h⟩ := lt_some h
              refine lv_iinc (v := x5_22) (lv' := [(5, .int x5_22), (3, .long x3_14), (7, .long x7_12), (6, .int x6_8), (0, .ref (A 0)), (1, .int x1), (2, .int x2)]) hx hb dX12_holds_226 hl (k := 6) rfl (by rw [ex_23]; rfl) (by decide) rfl (fun ls hl => ?_)
              refine lv_goto (tgt := 17) hx hb dX12_holds_229 (by decide) ?_
              exact ih x1 x2 x3_14 x5_22 m _ _ _  h hP hS (lv_sub hl [4, 5, 6, 1, 0] rfl)
          · have h := ifn c_16 h
            refine lv_lload_n hx hb dX12_holds_202 rfl (lv_at hl 0 rfl) ?_
            refine lv_lload hx hb dX12_holds_203 (lv_at hl 1 rfl) ?_
            refine lv_lor hx hb dX12_holds_205 ?_
            refine lv_goto (tgt := 225) hx hb dX12_holds_206 (by decide) ?_
            obtain ⟨x3_24, ex_25, h⟩ := lt_some h
            refine lv_renl ex_25 ?_
            refine lv_lstore_n (lv' := [(3, .long x3_24), (7, .long x7_12), (6, .int x6_8), (0, .ref (A 0)), (1, .int x1), (2, .int x2), (5, .int x5)]) hx hb dX12_holds_225 rfl hl (by decide) rfl (fun ls hl => ?_)
            obtain ⟨x5_26, ex_27, h⟩ := lt_some h
            refine lv_iinc (v := x5_26) (lv' := [(5, .int x5_26), (3, .long x3_24), (7, .long x7_12), (6, .int x6_8), (0, .ref (A 0)), (1, .int x1), (2, .int x2)]) hx hb dX12_holds_226 hl (k := 6) rfl (by rw [ex_27]; rfl) (by decide) rfl (fun ls hl => ?_)
            refine lv_goto (tgt := 17) hx hb dX12_holds_229 (by decide) ?_
            exact ih x1 x2 x3_24 x5_26 m _ _ _  h hP hS (lv_sub hl [4, 5, 6, 1, 0] rfl)
        · have h := ifp c_11 h
          refine lv_lload_n hx hb dX12_holds_178 rfl (lv_at hl 4 rfl) ?_
          refine lv_lconst (v := 1) hx hb dX12_holds_179 (by decide) ?_
          refine lv_lxor hx hb dX12_holds_180 ?_
          obtain ⟨x3_28, ex_29, h⟩ := lt_some h
          refine lv_renl ex_29 ?_
          refine lv_lstore_n (lv' := [(3, .long x3_28), (6, .int x6_8), (0, .ref (A 0)), (1, .int x1), (2, .int x2), (5, .int x5)]) hx hb dX12_holds_181 rfl hl (by decide) rfl (fun ls hl => ?_)
          refine lv_goto (tgt := 226) hx hb dX12_holds_182 (by decide) ?_
          obtain ⟨x5_30, ex_31, h⟩ := lt_some h
          refine lv_iinc (v := x5_30) (lv' := [(5, .int x5_30), (3, .long x3_28), (6, .int x6_8), (0, .ref (A 0)), (1, .int x1), (2, .int x2)]) hx hb dX12_holds_226 hl (k := 5) rfl (by rw [ex_31]; rfl) (by decide) rfl (fun ls hl => ?_)
          refine lv_goto (tgt := 17) hx hb dX12_holds_229 (by decide) ?_
          exact ih x1 x2 x3_28 x5_30 m _ _ _  h hP hS (lv_sub hl [3, 4, 5, 1, 0] rfl)
      · have h := ifn c_10 h
        refine lv_aload_n hx hb dX12_holds_55 rfl (lv_at hl 1 rfl) ?_
        refine lv_aload_n hx hb dX12_holds_56 rfl (lv_at hl 1 rfl) ?_
        refine r_get kc_12 0 X hP (by decide) (L_ref _) (by decide) rfl wt_5_172 dX12_holds_57 ?_
        refine lv_bipush (v := 103) hx hb dX12_holds_60 (by decide) ?_
        refine lv_iconst (v := 3) hx hb dX12_holds_62 (by decide) ?_
        refine lv_iload hx hb dX12_holds_63 (lv_at hl 5 rfl) ?_
        refine lv_imul hx hb dX12_holds_65 ?_
        refine lv_iadd hx hb dX12_holds_66 ?_
        refine lv_iconst (v := 1) hx hb dX12_holds_67 (by decide) ?_
        refine lv_iadd hx hb dX12_holds_68 ?_
        obtain ⟨hin_32, h⟩ := gx_some h
        refine r_iald X hP (by decide) (Lr_1 _) hin_32 rfl dX12_holds_69 ?_
        refine lv_iload_n hx hb dX12_holds_70 rfl (lv_at hl 3 rfl) ?_
        obtain ⟨r_33, m_34, hc_35, h⟩ := bd_some h
        refine c_V (rest := []) X hP hS (tX12_valueOf hI  hc_35) (by decide) (L_ref _) rfl wt_6_103 wt_6_105 ws_3_0 wt_1_13 wt_6_106 ⟨rfl, hy_X12_valueOf⟩ ⟨rfl, rfl⟩ ⟨Nat.le_of_ble_eq_true rfl, Nat.le_of_ble_eq_true rfl⟩ rfl hl.1 rfl (Nat.le_of_ble_eq_true rfl) dX12_holds_71 rfl (fun H locs hP hS => ?_)
        refine lv_istore (lv' := [(7, .int r_33), (6, .int x6_8), (0, .ref (A 0)), (1, .int x1), (2, .int x2), (3, .long x3), (5, .int x5)]) hx hb dX12_holds_74 hl (by decide) rfl (fun ls hl => ?_)
        refine lv_aload_n hx hb dX12_holds_76 rfl (lv_at hl 2 rfl) ?_
        refine lv_aload_n hx hb dX12_holds_77 rfl (lv_at hl 2 rfl) ?_
        refine r_get kc_12 0 X hP (by decide) (L_ref _) (by decide) rfl wt_5_172 dX12_holds_78 ?_
        refine lv_bipush (v := 103) hx hb dX12_holds_81 (by decide) ?_
        refine lv_iconst (v := 3) hx hb dX12_holds_83 (by decide) ?_
        refine lv_iload hx hb dX12_holds_84 (lv_at hl 6 rfl) ?_
        refine lv_imul hx hb dX12_holds_86 ?_
        refine lv_iadd hx hb dX12_holds_87 ?_
        refine lv_iconst (v := 2) hx hb dX12_holds_88 (by decide) ?_
        refine lv_iadd hx hb dX12_holds_89 ?_
        obtain ⟨hin_36, h⟩ := gx_some h
        refine r_iald X hP (by decide) (Lr_1 _) hin_36 rfl dX12_holds_90 ?_
        refine lv_iload_n hx hb dX12_holds_91 rfl (lv_at hl 4 rfl) ?_
        obtain ⟨r_37, m_38, hc_39, h⟩ := bd_some h
        refine c_V (rest := []) X hP hS (tX12_valueOf hI  hc_39) (by decide) (L_ref _) rfl wt_6_103 wt_6_105 ws_3_0 wt_1_13 wt_6_106 ⟨rfl, hy_X12_valueOf⟩ ⟨rfl, rfl⟩ ⟨Nat.le_of_ble_eq_true rfl, Nat.le_of_ble_eq_true rfl⟩ rfl hl.1 rfl (Nat.le_of_ble_eq_true rfl) dX12_holds_92 rfl (fun H locs hP hS => ?_)
        refine lv_istore (lv' := [(8, .int r_37), (7, .int r_33), (6, .int x6_8), (0, .ref (A 0)), (1, .int x1), (2, .int x2), (3, .long x3), (5, .int x5)]) hx hb dX12_holds_95 hl (by decide) rfl (fun ls hl => ?_)
        refine lv_iload hx hb dX12_holds_97 (lv_at hl 2 rfl) ?_
        refine lv_if_ne (tgt := 117) hx hb dX12_holds_99 (by decide) (fun c_40 => ?_) (fun c_40 => ?_)
        · have h := ifn c_40 h
          refine lv_iload hx hb dX12_holds_117 (lv_at hl 2 rfl) ?_
          refine lv_iconst (v := 1) hx hb dX12_holds_119 (by decide) ?_
          refine lv_icmp_ne (tgt := 138) hx hb dX12_holds_120 (by decide) (fun c_41 => ?_) (fun c_41 => ?_)
          · have h := ifn c_41 h
            refine lv_iload hx hb dX12_holds_138 (lv_at hl 1 rfl) ?_
            refine lv_iload hx hb dX12_holds_140 (lv_at hl 0 rfl) ?_
            refine lv_icmp_le (tgt := 149) hx hb dX12_holds_142 (by decide) (fun c_42 => ?_) (fun c_42 => ?_)
            · have h := ifp c_42 h
              refine lv_iconst (v := 0) hx hb dX12_holds_149 (by decide) ?_
              exact tX12_holds_150 hI   (fun x1 x2 x3 x5 m H locs ls h hP hS hl => ih x1 x2 x3 x5 m H locs ls  h hP hS hl) X x1 x2 x3 x5 0 m_38 _ _ _  h hP hS (lv_sub hl [3, 4, 5, 6, 7] rfl)
            · have h := ifn c_42 h
              refine lv_iconst (v := 1) hx hb dX12_holds_145 (by decide) ?_
              refine lv_goto (tgt := 150) hx hb dX12_holds_146 (by decide) ?_
              exact tX12_holds_150 hI   (fun x1 x2 x3 x5 m H locs ls h hP hS hl => ih x1 x2 x3 x5 m H locs ls  h hP hS hl) X x1 x2 x3 x5 1 m_38 _ _ _  h hP hS (lv_sub hl [3, 4, 5, 6, 7] rfl)
          · have h := ifp c_41 h
            refine lv_iload hx hb dX12_holds_123 (lv_at hl 1 rfl) ?_
            refine lv_iload hx hb dX12_holds_125 (lv_at hl 0 rfl) ?_
            refine lv_icmp_ne (tgt := 134) hx hb dX12_holds_127 (by decide) (fun c_48 => ?_) (fun c_48 => ?_)
            · have h := ifn c_48 h
              refine lv_iconst (v := 0) hx hb dX12_holds_134 (by decide) ?_
              refine lv_goto (tgt := 150) hx hb dX12_holds_135 (by decide) ?_
              exact tX12_holds_150 hI   (fun x1 x2 x3 x5 m H locs ls h hP hS hl => ih x1 x2 x3 x5 m H locs ls  h hP hS hl) X x1 x2 x3 x5 0 m_38 _ _ _  h hP hS (lv_sub hl [3, 4, 5, 6, 7] rfl)
            · have h := ifp c_48 h
              refine lv_iconst (v := 1) hx hb dX12_holds_130 (by decide) ?_
              refine lv_goto (tgt := 150) hx hb dX12_holds_131 (by decide) ?_
              exact tX12_holds_150 hI   (fun x1 x2 x3 x5 m H locs ls h hP hS hl => ih x1 x2 x3 x5 m H locs ls  h hP hS hl) X x1 x2 x3 x5 1 m_38 _ _ _  h hP hS (lv_sub hl [3, 4, 5, 6, 7] rfl)
        · have h := ifp c_40 h
          refine lv_iload hx hb dX12_holds_102 (lv_at hl 1 rfl) ?_
          refine lv_iload hx hb dX12_holds_104 (lv_at hl 0 rfl) ?_
          refine lv_icmp_ge (tgt := 113) hx hb dX12_holds_106 (by decide) (fun c_49 => ?_) (fun c_49 => ?_)
          · have h := ifp c_49 h
            refine lv_iconst (v := 0) hx hb dX12_holds_113 (by decide) ?_
            refine lv_goto (tgt := 150) hx hb dX12_holds_114 (by decide) ?_
            exact tX12_holds_150 hI   (fun x1 x2 x3 x5 m H locs ls h hP hS hl => ih x1 x2 x3 x5 m H locs ls  h hP hS hl) X x1 x2 x3 x5 0 m_38 _ _ _  h hP hS (lv_sub hl [3, 4, 5, 6, 7] rfl)
          · have h := ifn c_49 h
            refine lv_iconst (v := 1) hx hb dX12_holds_109 (by decide) ?_
            refine lv_goto (tgt := 150) hx hb dX12_holds_110 (by decide) ?_
            exact tX12_holds_150 hI   (fun x1 x2 x3 x5 m H locs ls h hP hS hl => ih x1 x2 x3 x5 m H locs ls  h hP hS hl) X x1 x2 x3 x5 1 m_38 _ _ _  h hP hS (lv_sub hl [3, 4, 5, 6, 7] rfl)

def fX12_holds (a1 : Int32) (a2 : Int32) (m : Mm) : Option (Int32 × Mm) := gx (((53 : Int32) + ((4 : Int32) * a1)) + 2) 553 (lt (m 1 (ix (((53 : Int32) + ((4 : Int32) * a1)) + 2))) fun x5_2 => (fX12_holds_17  FL a1 a2 1 x5_2 m))
set_option maxHeartbeats 4000000 in
set_option maxRecDepth 100000 in
theorem tX12_holds {l : Launch} {D : va_G} {cA : Nat → ClassId} {A : Nat → Nat} (hI : InjA rN A) {a1 : Int32} {a2 : Int32} {m m' : Mm} {r : Int32} (h : fX12_holds a1 a2 m = some (r, m')) : Met0 l yX12_holds cX12_holds 10 (some .boolean) { frames := 2, cells := 0, slots := 0, locals := 44 } rLay rN D cA A [.ref (A 0), .int a1, .int a2] m (some (.int r)) m' := by
  refine met0_of (by decide) (Nat.le_of_ble_eq_true rfl) hI ?_
  intro p e s m0 below meth c ls X hinit hP hS hl
  generalize ([.ref (A 0), .int a1, .int a2] : List Value).toArray = args at X ⊢
  have hl : lv_has ls 10 [(0, .ref (A 0)), (1, .int a1), (2, .int a2)] := hl
  have X : CX rLay rN D cA A p s m0 args meth c "BenchTowelsModel" cX12_holds 10 (some .boolean) := X
  have hx := X.1
  have hb := X.2.1
  have hml := X.2.2.1
  have hown := X.2.2.2.1
  have hts := X.2.2.2.2.1
  have hF := X.2.2.2.2.2.2.2.2.1
  rewrite [fX12_holds] at h
  refine lv_lconst (v := 1) hx hb dX12_holds_0 (by decide) ?_
  refine lv_lstore_n (lv' := [(3, .long 1), (0, .ref (A 0)), (1, .int a1), (2, .int a2)]) hx hb dX12_holds_1 rfl hl (by decide) rfl (fun ls hl => ?_)
  refine lv_aload_n hx hb dX12_holds_2 rfl (lv_at hl 1 rfl) ?_
  refine r_get kc_12 0 X hP (by decide) (L_ref _) (by decide) rfl wt_5_172 dX12_holds_3 ?_
  refine lv_bipush (v := 53) hx hb dX12_holds_6 (by decide) ?_
  refine lv_iconst (v := 4) hx hb dX12_holds_8 (by decide) ?_
  refine lv_iload_n hx hb dX12_holds_9 rfl (lv_at hl 2 rfl) ?_
  refine lv_imul hx hb dX12_holds_10 ?_
  refine lv_iadd hx hb dX12_holds_11 ?_
  refine lv_iconst (v := 2) hx hb dX12_holds_12 (by decide) ?_
  refine lv_iadd hx hb dX12_holds_13 ?_
  obtain ⟨hin_1, h⟩ := gx_some h
  refine r_iald X hP (by decide) (Lr_1 _) hin_1 rfl dX12_holds_14 ?_
  obtain ⟨x5_2, ex_3, h⟩ := lt_some h
  refine lv_ren ex_3 ?_
  refine lv_istore (lv' := [(5, .int x5_2), (3, .long 1), (0, .ref (A 0)), (1, .int a1), (2, .int a2)]) hx hb dX12_holds_15 hl (by decide) rfl (fun ls hl => ?_)
  exact tX12_holds_17 hI    X FL a1 a2 1 x5_2 m _ _ _  h hP hS (lv_sub hl [2, 3, 4, 1, 0] rfl)

def fX12_will_2  : Nat → Int32 → Int32 → Mm → Option (Int32 × Mm)
  | 0, _, _, _ => none
  | n + 1, x1, x2, m => (if ((m 1 5) : Int32) ≤ x2 then some (0, m) else bd (fX12_its x1 (0 : Int32) m) fun r_2 m_3 => gx ((53 : Int32) + ((4 : Int32) * x2)) 553 (bd (fX12_isUnder r_2 (m_3 1 (ix ((53 : Int32) + ((4 : Int32) * x2)))) m_3) fun r_6 m_7 => (if r_6 = 0 then lt ((x2 : Int32) + 1) fun x2_10 => (fX12_will_2 n x1 x2_10 m_7) else bd (fX12_holds x2 x1 m_7) fun r_12 m_13 => (if r_12 = 0 then lt ((x2 : Int32) + 1) fun x2_16 => (fX12_will_2 n x1 x2_16 m_13) else gx (((53 : Int32) + ((4 : Int32) * x2)) + 1) 553 (some ((m_13 1 (ix (((53 : Int32) + ((4 : Int32) * x2)) + 1))), m_13))))))
set_option maxHeartbeats 4000000 in
set_option maxRecDepth 100000 in
theorem tX12_will_2 (hI : InjA rN A)  {r : Int32} {m' : Mm} (X : CX rLay rN D cA A p s m0 args meth c "BenchTowelsModel" cX12_will 3 (some .int)) : ∀ (n : Nat) (x1 : Int32) (x2 : Int32) (m : Mm) (H : Heap) (locs : List Loc) (ls : Array Slot), fX12_will_2 n x1 x2 m = some (r, m') → va_P D vwCl (wsOf rLay rN cA A m) H → va_S (AW rN A) s.heap H locs → lv_has ls 3 [(0, .ref (A 0)), (1, .int x1), (2, .int x2)] → W p l e { frames := 3, cells := 0, slots := 0, locals := 73 } s m0 args below meth c H locs 0 0 (ZR below args s rLay rN D cA A (some (.int r)) m') (F0 m0 2 ls []) := by
  have hx := X.1
  have hb := X.2.1
  have hml := X.2.2.1
  have hown := X.2.2.2.1
  have hts := X.2.2.2.2.1
  have hF := X.2.2.2.2.2.2.2.2.1
  intro n
  induction n with
  | zero =>
    intro x1 x2 m H locs ls h hP hS hl
    exact absurd h (by rewrite [fX12_will_2]; exact fun q => by cases q)
  | succ n ih =>
    intro x1 x2 m H locs ls h hP hS hl
    rewrite [fX12_will_2] at h
    refine lv_iload_n hx hb dX12_will_2 rfl (lv_at hl 2 rfl) ?_
    refine lv_aload_n hx hb dX12_will_3 rfl (lv_at hl 0 rfl) ?_
    refine r_get kc_12 0 X hP (by decide) (L_ref _) (by decide) rfl wt_5_172 dX12_will_4 ?_
    refine lv_iconst (v := 5) hx hb dX12_will_7 (by decide) ?_
    refine r_iald X hP (by decide) (Lr_1 _) (vpc (by decide)) ixc_5 dX12_will_8 ?_
    refine lv_icmp_ge (tgt := 64) hx hb dX12_will_9 (by decide) (fun c_1 => ?_) (fun c_1 => ?_)
    · have h := ifp c_1 h
      refine lv_iconst (v := 0) hx hb dX12_will_64 (by decide) ?_
      exact r_iret X hP hS dX12_will_65 h
    · have h := ifn c_1 h
      refine lv_aload_n hx hb dX12_will_12 rfl (lv_at hl 0 rfl) ?_
      refine lv_iload_n hx hb dX12_will_13 rfl (lv_at hl 1 rfl) ?_
      refine lv_iconst (v := 0) hx hb dX12_will_14 (by decide) ?_
      obtain ⟨r_2, m_3, hc_4, h⟩ := bd_some h
      refine c_V (rest := []) X hP hS (tX12_its hI  hc_4) (by decide) (L_ref _) rfl wt_6_76 wt_6_78 ws_2_10 wt_1_13 wt_6_79 ⟨rfl, hy_X12_its⟩ ⟨rfl, rfl⟩ ⟨Nat.le_of_ble_eq_true rfl, Nat.le_of_ble_eq_true rfl⟩ rfl hl.1 rfl (Nat.le_of_ble_eq_true rfl) dX12_will_15 rfl (fun H locs hP hS => ?_)
      refine lv_aload_n hx hb dX12_will_18 rfl (lv_at hl 0 rfl) ?_
      refine r_get kc_12 0 X hP (by decide) (L_ref _) (by decide) rfl wt_5_172 dX12_will_19 ?_
      refine lv_bipush (v := 53) hx hb dX12_will_22 (by decide) ?_
      refine lv_iconst (v := 4) hx hb dX12_will_24 (by decide) ?_
      refine lv_iload_n hx hb dX12_will_25 rfl (lv_at hl 2 rfl) ?_
      refine lv_imul hx hb dX12_will_26 ?_
      refine lv_iadd hx hb dX12_will_27 ?_
      obtain ⟨hin_5, h⟩ := gx_some h
      refine r_iald X hP (by decide) (Lr_1 _) hin_5 rfl dX12_will_28 ?_
      obtain ⟨r_6, m_7, hc_8, h⟩ := bd_some h
      refine c_S (rest := []) X hP hS (tX12_isUnder hI  hc_8) wt_6_96 wt_6_97 wt_1_13 wt_6_98 hy_X12_isUnder ⟨rfl, rfl⟩ ⟨Nat.le_of_ble_eq_true rfl, Nat.le_of_ble_eq_true rfl⟩ rfl hl.1 rfl (Nat.le_of_ble_eq_true rfl) dX12_will_29 rfl (fun H locs hP hS => ?_)
      refine lv_if_eq (tgt := 58) hx hb dX12_will_32 (by decide) (fun c_9 => ?_) (fun c_9 => ?_)
      · have h := ifp c_9 h
        obtain ⟨x2_10, ex_11, h⟩ := lt_some h
        refine lv_iinc (v := x2_10) (lv' := [(2, .int x2_10), (0, .ref (A 0)), (1, .int x1)]) hx hb dX12_will_58 hl (k := 2) rfl (by rw [ex_11]; rfl) (by decide) rfl (fun ls hl => ?_)
        refine lv_goto (tgt := 2) hx hb dX12_will_61 (by decide) ?_
        exact ih x1 x2_10 m_7 _ _ _  h hP hS (lv_sub hl [1, 2, 0] rfl)
      · have h := ifn c_9 h
        refine lv_aload_n hx hb dX12_will_35 rfl (lv_at hl 0 rfl) ?_
        refine lv_iload_n hx hb dX12_will_36 rfl (lv_at hl 2 rfl) ?_
        refine lv_iload_n hx hb dX12_will_37 rfl (lv_at hl 1 rfl) ?_
        obtain ⟨r_12, m_13, hc_14, h⟩ := bd_some h
        refine c_V (rest := []) X hP hS (tX12_holds hI  hc_14) (by decide) (L_ref _) rfl wt_6_99 wt_6_101 ws_2_15 wt_1_13 wt_6_102 ⟨rfl, hy_X12_holds⟩ ⟨rfl, rfl⟩ ⟨Nat.le_of_ble_eq_true rfl, Nat.le_of_ble_eq_true rfl⟩ rfl hl.1 rfl (Nat.le_of_ble_eq_true rfl) dX12_will_38 rfl (fun H locs hP hS => ?_)
        refine lv_if_eq (tgt := 58) hx hb dX12_will_41 (by decide) (fun c_15 => ?_) (fun c_15 => ?_)
        · have h := ifp c_15 h
          obtain ⟨x2_16, ex_17, h⟩ := lt_some h
          refine lv_iinc (v := x2_16) (lv' := [(2, .int x2_16), (0, .ref (A 0)), (1, .int x1)]) hx hb dX12_will_58 hl (k := 2) rfl (by rw [ex_17]; rfl) (by decide) rfl (fun ls hl => ?_)
          refine lv_goto (tgt := 2) hx hb dX12_will_61 (by decide) ?_
          exact ih x1 x2_16 m_13 _ _ _  h hP hS (lv_sub hl [1, 2, 0] rfl)
        · have h := ifn c_15 h
          refine lv_aload_n hx hb dX12_will_44 rfl (lv_at hl 0 rfl) ?_
          refine r_get kc_12 0 X hP (by decide) (L_ref _) (by decide) rfl wt_5_172 dX12_will_45 ?_
          refine lv_bipush (v := 53) hx hb dX12_will_48 (by decide) ?_
          refine lv_iconst (v := 4) hx hb dX12_will_50 (by decide) ?_
          refine lv_iload_n hx hb dX12_will_51 rfl (lv_at hl 2 rfl) ?_
          refine lv_imul hx hb dX12_will_52 ?_
          refine lv_iadd hx hb dX12_will_53 ?_
          refine lv_iconst (v := 1) hx hb dX12_will_54 (by decide) ?_
          refine lv_iadd hx hb dX12_will_55 ?_
          obtain ⟨hin_18, h⟩ := gx_some h
          refine r_iald X hP (by decide) (Lr_1 _) hin_18 rfl dX12_will_56 ?_
          exact r_iret X hP hS dX12_will_57 h

def fX12_will (a1 : Int32) (m : Mm) : Option (Int32 × Mm) := (fX12_will_2  FL a1 0 m)
set_option maxHeartbeats 4000000 in
set_option maxRecDepth 100000 in
theorem tX12_will {l : Launch} {D : va_G} {cA : Nat → ClassId} {A : Nat → Nat} (hI : InjA rN A) {a1 : Int32} {m m' : Mm} {r : Int32} (h : fX12_will a1 m = some (r, m')) : Met0 l yX12_will cX12_will 3 (some .int) { frames := 3, cells := 0, slots := 0, locals := 73 } rLay rN D cA A [.ref (A 0), .int a1] m (some (.int r)) m' := by
  refine met0_of (by decide) (Nat.le_of_ble_eq_true rfl) hI ?_
  intro p e s m0 below meth c ls X hinit hP hS hl
  generalize ([.ref (A 0), .int a1] : List Value).toArray = args at X ⊢
  have hl : lv_has ls 3 [(0, .ref (A 0)), (1, .int a1)] := hl
  have X : CX rLay rN D cA A p s m0 args meth c "BenchTowelsModel" cX12_will 3 (some .int) := X
  have hx := X.1
  have hb := X.2.1
  have hml := X.2.2.1
  have hown := X.2.2.2.1
  have hts := X.2.2.2.2.1
  have hF := X.2.2.2.2.2.2.2.2.1
  rewrite [fX12_will] at h
  refine lv_iconst (v := 0) hx hb dX12_will_0 (by decide) ?_
  refine lv_istore_n (lv' := [(2, .int 0), (0, .ref (A 0)), (1, .int a1)]) hx hb dX12_will_1 rfl hl (by decide) rfl (fun ls hl => ?_)
  exact tX12_will_2 hI    X FL a1 0 m _ _ _  h hP hS (lv_sub hl [1, 2, 0] rfl)

def fX12_setOf (a1 : Int32) (a2 : Int32) (m : Mm) : Option (Int32 × Mm) := bd (fX12_isOne a1 m) fun r_1 m_2 => (if r_1 = 0 then some ((-1), m_2) else bd (fX12_isIn (Int32.toInt64 a2) (0 : Int64) (8 : Int64) m_2) fun r_5 m_6 => (if r_5 = 0 then some ((-1), m_6) else (if a2 = 5 then bd (fX12_may a1 (m_6 1 1) m_6) fun r_10 m_11 => (if r_10 = 0 then some (0, m_11) else some (1, m_11)) else (if a2 = 6 then bd (fX12_gains a1 m_6) fun r_15 m_16 => some (r_15, m_16) else (if a2 = 7 then bd (fX12_tires a1 m_6) fun r_19 m_20 => some (r_19, m_20) else (if a2 = 8 then bd (fX12_will a1 m_6) fun r_23 m_24 => some (r_23, m_24) else bd (fX12_its a1 a2 m_6) fun r_26 m_27 => some (r_26, m_27)))))))
set_option maxHeartbeats 4000000 in
set_option maxRecDepth 100000 in
theorem tX12_setOf {l : Launch} {D : va_G} {cA : Nat → ClassId} {A : Nat → Nat} (hI : InjA rN A) {a1 : Int32} {a2 : Int32} {m m' : Mm} {r : Int32} (h : fX12_setOf a1 a2 m = some (r, m')) : Met0 l yX12_setOf cX12_setOf 3 (some .int) { frames := 4, cells := 0, slots := 0, locals := 95 } rLay rN D cA A [.ref (A 0), .int a1, .int a2] m (some (.int r)) m' := by
  refine met0_of (by decide) (Nat.le_of_ble_eq_true rfl) hI ?_
  intro p e s m0 below meth c ls X hinit hP hS hl
  generalize ([.ref (A 0), .int a1, .int a2] : List Value).toArray = args at X ⊢
  have hl : lv_has ls 3 [(0, .ref (A 0)), (1, .int a1), (2, .int a2)] := hl
  have X : CX rLay rN D cA A p s m0 args meth c "BenchTowelsModel" cX12_setOf 3 (some .int) := X
  have hx := X.1
  have hb := X.2.1
  have hml := X.2.2.1
  have hown := X.2.2.2.1
  have hts := X.2.2.2.2.1
  have hF := X.2.2.2.2.2.2.2.2.1
  rewrite [fX12_setOf] at h
  refine lv_aload_n hx hb dX12_setOf_0 rfl (lv_at hl 0 rfl) ?_
  refine lv_iload_n hx hb dX12_setOf_1 rfl (lv_at hl 1 rfl) ?_
  obtain ⟨r_1, m_2, hc_3, h⟩ := bd_some h
  refine c_V (rest := []) X hP hS (tX12_isOne hI  hc_3) (by decide) (L_ref _) rfl wt_6_67 wt_6_69 ws_2_8 wt_1_13 wt_6_70 ⟨rfl, hy_X12_isOne⟩ ⟨rfl, rfl⟩ ⟨Nat.le_of_ble_eq_true rfl, Nat.le_of_ble_eq_true rfl⟩ rfl hl.1 rfl (Nat.le_of_ble_eq_true rfl) dX12_setOf_2 rfl (fun H locs hP hS => ?_)
  refine lv_if_eq (tgt := 20) hx hb dX12_setOf_5 (by decide) (fun c_4 => ?_) (fun c_4 => ?_)
  · have h := ifp c_4 h
    refine lv_iconst (v := (-1)) hx hb dX12_setOf_20 (by decide) ?_
    exact r_iret X hP hS dX12_setOf_21 h
  · have h := ifn c_4 h
    refine lv_iload_n hx hb dX12_setOf_8 rfl (lv_at hl 2 rfl) ?_
    refine lv_i2l hx hb dX12_setOf_9 rfl ?_
    refine lv_lconst (v := 0) hx hb dX12_setOf_10 (by decide) ?_
    refine lv_ldc2 (v := 8) hx hb hown (hts _ wt_6_71) dX12_setOf_11 ?_
    obtain ⟨r_5, m_6, hc_7, h⟩ := bd_some h
    refine c_S (rest := []) X hP hS (tX12_isIn hI  hc_7) wt_6_55 wt_6_56 wt_1_13 wt_6_57 hy_X12_isIn ⟨rfl, rfl⟩ ⟨Nat.le_of_ble_eq_true rfl, Nat.le_of_ble_eq_true rfl⟩ rfl hl.1 rfl (Nat.le_of_ble_eq_true rfl) dX12_setOf_14 rfl (fun H locs hP hS => ?_)
    refine lv_if_ne (tgt := 22) hx hb dX12_setOf_17 (by decide) (fun c_8 => ?_) (fun c_8 => ?_)
    · have h := ifn c_8 h
      refine lv_iload_n hx hb dX12_setOf_22 rfl (lv_at hl 2 rfl) ?_
      by_cases c_9 : a2 = 5
      · have h := ifp c_9 h
        refine lv_ren c_9.symm ?_
        refine lv_tableIn (tgt := 52) hx hb dX12_setOf_23 (by decide) (by decide) rfl (by decide) ?_
        refine lv_aload_n hx hb dX12_setOf_52 rfl (lv_at hl 0 rfl) ?_
        refine lv_iload_n hx hb dX12_setOf_53 rfl (lv_at hl 1 rfl) ?_
        refine lv_aload_n hx hb dX12_setOf_54 rfl (lv_at hl 0 rfl) ?_
        refine r_get kc_12 0 X hP (by decide) (L_ref _) (by decide) rfl wt_5_172 dX12_setOf_55 ?_
        refine lv_iconst (v := 1) hx hb dX12_setOf_58 (by decide) ?_
        refine r_iald X hP (by decide) (Lr_1 _) (vpc (by decide)) ixc_1 dX12_setOf_59 ?_
        obtain ⟨r_10, m_11, hc_12, h⟩ := bd_some h
        refine c_V (rest := []) X hP hS (tX12_may hI  hc_12) (by decide) (L_ref _) rfl wt_6_72 wt_6_74 ws_2_9 wt_1_13 wt_6_75 ⟨rfl, hy_X12_may⟩ ⟨rfl, rfl⟩ ⟨Nat.le_of_ble_eq_true rfl, Nat.le_of_ble_eq_true rfl⟩ rfl hl.1 rfl (Nat.le_of_ble_eq_true rfl) dX12_setOf_60 rfl (fun H locs hP hS => ?_)
        refine lv_if_eq (tgt := 70) hx hb dX12_setOf_63 (by decide) (fun c_13 => ?_) (fun c_13 => ?_)
        · have h := ifp c_13 h
          refine lv_iconst (v := 0) hx hb dX12_setOf_70 (by decide) ?_
          exact r_iret X hP hS dX12_setOf_71 h
        · have h := ifn c_13 h
          refine lv_iconst (v := 1) hx hb dX12_setOf_66 (by decide) ?_
          refine lv_goto (tgt := 71) hx hb dX12_setOf_67 (by decide) ?_
          exact r_iret X hP hS dX12_setOf_71 h
      have h := ifn c_9 h
      by_cases c_14 : a2 = 6
      · have h := ifp c_14 h
        refine lv_ren c_14.symm ?_
        refine lv_tableIn (tgt := 72) hx hb dX12_setOf_23 (by decide) (by decide) rfl (by decide) ?_
        refine lv_aload_n hx hb dX12_setOf_72 rfl (lv_at hl 0 rfl) ?_
        refine lv_iload_n hx hb dX12_setOf_73 rfl (lv_at hl 1 rfl) ?_
        obtain ⟨r_15, m_16, hc_17, h⟩ := bd_some h
        refine c_V (rest := []) X hP hS (tX12_gains hI  hc_17) (by decide) (L_ref _) rfl wt_6_84 wt_6_86 ws_2_12 wt_1_13 wt_6_87 ⟨rfl, hy_X12_gains⟩ ⟨rfl, rfl⟩ ⟨Nat.le_of_ble_eq_true rfl, Nat.le_of_ble_eq_true rfl⟩ rfl hl.1 rfl (Nat.le_of_ble_eq_true rfl) dX12_setOf_74 rfl (fun H locs hP hS => ?_)
        exact r_iret X hP hS dX12_setOf_77 h
      have h := ifn c_14 h
      by_cases c_18 : a2 = 7
      · have h := ifp c_18 h
        refine lv_ren c_18.symm ?_
        refine lv_tableIn (tgt := 78) hx hb dX12_setOf_23 (by decide) (by decide) rfl (by decide) ?_
        refine lv_aload_n hx hb dX12_setOf_78 rfl (lv_at hl 0 rfl) ?_
        refine lv_iload_n hx hb dX12_setOf_79 rfl (lv_at hl 1 rfl) ?_
        obtain ⟨r_19, m_20, hc_21, h⟩ := bd_some h
        refine c_V (rest := []) X hP hS (tX12_tires hI  hc_21) (by decide) (L_ref _) rfl wt_6_88 wt_6_90 ws_2_13 wt_1_13 wt_6_91 ⟨rfl, hy_X12_tires⟩ ⟨rfl, rfl⟩ ⟨Nat.le_of_ble_eq_true rfl, Nat.le_of_ble_eq_true rfl⟩ rfl hl.1 rfl (Nat.le_of_ble_eq_true rfl) dX12_setOf_80 rfl (fun H locs hP hS => ?_)
        exact r_iret X hP hS dX12_setOf_83 h
      have h := ifn c_18 h
      by_cases c_22 : a2 = 8
      · have h := ifp c_22 h
        refine lv_ren c_22.symm ?_
        refine lv_tableIn (tgt := 84) hx hb dX12_setOf_23 (by decide) (by decide) rfl (by decide) ?_
        refine lv_aload_n hx hb dX12_setOf_84 rfl (lv_at hl 0 rfl) ?_
        refine lv_iload_n hx hb dX12_setOf_85 rfl (lv_at hl 1 rfl) ?_
        obtain ⟨r_23, m_24, hc_25, h⟩ := bd_some h
        refine c_V (rest := []) X hP hS (tX12_will hI  hc_25) (by decide) (L_ref _) rfl wt_6_92 wt_6_94 ws_2_14 wt_1_13 wt_6_95 ⟨rfl, hy_X12_will⟩ ⟨rfl, rfl⟩ ⟨Nat.le_of_ble_eq_true rfl, Nat.le_of_ble_eq_true rfl⟩ rfl hl.1 rfl (Nat.le_of_ble_eq_true rfl) dX12_setOf_86 rfl (fun H locs hP hS => ?_)
        exact r_iret X hP hS dX12_setOf_89 h
      have h := ifn c_22 h
      refine lv_tableOut (tgt := 90) hx hb dX12_setOf_23 (by have q1005 : a2.toInt ≠ 5 := fun q => c_9 (Int32.toInt_inj.mp (q.trans (by decide)));  have q1006 : a2.toInt ≠ 6 := fun q => c_14 (Int32.toInt_inj.mp (q.trans (by decide)));  have q1007 : a2.toInt ≠ 7 := fun q => c_18 (Int32.toInt_inj.mp (q.trans (by decide)));  have q1008 : a2.toInt ≠ 8 := fun q => c_22 (Int32.toInt_inj.mp (q.trans (by decide)));  omega) (by decide) ?_
      refine lv_aload_n hx hb dX12_setOf_90 rfl (lv_at hl 0 rfl) ?_
      refine lv_iload_n hx hb dX12_setOf_91 rfl (lv_at hl 1 rfl) ?_
      refine lv_iload_n hx hb dX12_setOf_92 rfl (lv_at hl 2 rfl) ?_
      obtain ⟨r_26, m_27, hc_28, h⟩ := bd_some h
      refine c_V (rest := []) X hP hS (tX12_its hI  hc_28) (by decide) (L_ref _) rfl wt_6_76 wt_6_78 ws_2_10 wt_1_13 wt_6_79 ⟨rfl, hy_X12_its⟩ ⟨rfl, rfl⟩ ⟨Nat.le_of_ble_eq_true rfl, Nat.le_of_ble_eq_true rfl⟩ rfl hl.1 rfl (Nat.le_of_ble_eq_true rfl) dX12_setOf_93 rfl (fun H locs hP hS => ?_)
      exact r_iret X hP hS dX12_setOf_96 h
    · have h := ifp c_8 h
      refine lv_iconst (v := (-1)) hx hb dX12_setOf_20 (by decide) ?_
      exact r_iret X hP hS dX12_setOf_21 h

end
