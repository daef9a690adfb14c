-- the reference's methods walked, by program (wip/whole/gen)
section
variable {p : Program} {l : Launch} {e : Env} {s : State} {m0 : MethodId} {args : Array Value} {below : List Frame} {meth : Method} {c : Code} {D : va_G} {cA : Nat → ClassId} {A : Nat → Nat}
def fX12_isIn (a1 : Int64) (a2 : Int64) (a3 : Int64) (m : Mm) : Option (Int32 × Mm) := (if (lg_cmp a1 a2) < 0 then some (0, m) else (if (0 : Int32) < (lg_cmp a1 a3) then some (0, m) else some (1, m)))
set_option maxHeartbeats 4000000 in
set_option maxRecDepth 100000 in
theorem tX12_isIn {l : Launch} {D : va_G} {cA : Nat → ClassId} {A : Nat → Nat} (hI : InjA rN A) {a1 : Int64} {a2 : Int64} {a3 : Int64} {m m' : Mm} {r : Int32} (h : fX12_isIn a1 a2 a3 m = some (r, m')) : Met0 l yX12_isIn cX12_isIn 6 (some .boolean) { frames := 0, cells := 0, slots := 0, locals := 0 } rLay rN D cA A [.long a1, .long a2, .long a3] m (some (.int r)) m' := by
  refine met0_of (by decide) (Nat.le_of_ble_eq_true rfl) hI ?_
  intro p e s m0 below meth c ls X hinit hP hS hl
  generalize ([.long a1, .long a2, .long a3] : List Value).toArray = args at X ⊢
  have hl : lv_has ls 6 [(0, .long a1), (2, .long a2), (4, .long a3)] := hl
  have X : CX rLay rN D cA A p s m0 args meth c "BenchTowelsModel" cX12_isIn 6 (some .boolean) := X
  have hx := X.1
  have hb := X.2.1
  have hml := X.2.2.1
  have hown := X.2.2.2.1
  have hts := X.2.2.2.2.1
  have hF := X.2.2.2.2.2.2.2.2.1
  rewrite [fX12_isIn] at h
  refine lv_lload_n hx hb dX12_isIn_0 rfl (lv_at hl 0 rfl) ?_
  refine lv_lload_n hx hb dX12_isIn_1 rfl (lv_at hl 1 rfl) ?_
  refine W.lcmp hx hb dX12_isIn_2 ?_
  refine lv_if_lt (tgt := 17) hx hb dX12_isIn_3 (by decide) (fun c_1 => ?_) (fun c_1 => ?_)
  · have h := ifp c_1 h
    refine lv_iconst (v := 0) hx hb dX12_isIn_17 (by decide) ?_
    exact r_zret X (Or.inl rfl) hP hS dX12_isIn_18 h
  · have h := ifn c_1 h
    refine lv_lload_n hx hb dX12_isIn_6 rfl (lv_at hl 0 rfl) ?_
    refine lv_lload hx hb dX12_isIn_7 (lv_at hl 2 rfl) ?_
    refine W.lcmp hx hb dX12_isIn_9 ?_
    refine lv_if_gt (tgt := 17) hx hb dX12_isIn_10 (by decide) (fun c_2 => ?_) (fun c_2 => ?_)
    · have h := ifp c_2 h
      refine lv_iconst (v := 0) hx hb dX12_isIn_17 (by decide) ?_
      exact r_zret X (Or.inl rfl) hP hS dX12_isIn_18 h
    · have h := ifn c_2 h
      refine lv_iconst (v := 1) hx hb dX12_isIn_13 (by decide) ?_
      refine lv_goto (tgt := 18) hx hb dX12_isIn_14 (by decide) ?_
      exact r_zret X (Or.inr rfl) hP hS dX12_isIn_18 h

def fX12_isOne (a1 : Int32) (m : Mm) : Option (Int32 × Mm) := (if a1 < 0 then some (0, m) else (if ((m 1 0) : Int32) ≤ a1 then some (0, m) else some (1, m)))
set_option maxHeartbeats 4000000 in
set_option maxRecDepth 100000 in
theorem tX12_isOne {l : Launch} {D : va_G} {cA : Nat → ClassId} {A : Nat → Nat} (hI : InjA rN A) {a1 : Int32} {m m' : Mm} {r : Int32} (h : fX12_isOne a1 m = some (r, m')) : Met0 l yX12_isOne cX12_isOne 2 (some .boolean) { frames := 0, cells := 0, slots := 0, locals := 0 } rLay rN D cA A [.ref (A 0), .int a1] m (some (.int r)) m' := by
  refine met0_of (by decide) (Nat.le_of_ble_eq_true rfl) hI ?_
  intro p e s m0 below meth c ls X hinit hP hS hl
  generalize ([.ref (A 0), .int a1] : List Value).toArray = args at X ⊢
  have hl : lv_has ls 2 [(0, .ref (A 0)), (1, .int a1)] := hl
  have X : CX rLay rN D cA A p s m0 args meth c "BenchTowelsModel" cX12_isOne 2 (some .boolean) := X
  have hx := X.1
  have hb := X.2.1
  have hml := X.2.2.1
  have hown := X.2.2.2.1
  have hts := X.2.2.2.2.1
  have hF := X.2.2.2.2.2.2.2.2.1
  rewrite [fX12_isOne] at h
  refine lv_iload_n hx hb dX12_isOne_0 rfl (lv_at hl 1 rfl) ?_
  refine lv_if_lt (tgt := 18) hx hb dX12_isOne_1 (by decide) (fun c_1 => ?_) (fun c_1 => ?_)
  · have h := ifp c_1 h
    refine lv_iconst (v := 0) hx hb dX12_isOne_18 (by decide) ?_
    exact r_zret X (Or.inl rfl) hP hS dX12_isOne_19 h
  · have h := ifn c_1 h
    refine lv_iload_n hx hb dX12_isOne_4 rfl (lv_at hl 1 rfl) ?_
    refine lv_aload_n hx hb dX12_isOne_5 rfl (lv_at hl 0 rfl) ?_
    refine r_get kc_12 0 X hP (by decide) (L_ref _) (by decide) rfl wt_5_172 dX12_isOne_6 ?_
    refine lv_iconst (v := 0) hx hb dX12_isOne_9 (by decide) ?_
    refine r_iald X hP (by decide) (Lr_1 _) (vpc (by decide)) ixc_0 dX12_isOne_10 ?_
    refine lv_icmp_ge (tgt := 18) hx hb dX12_isOne_11 (by decide) (fun c_2 => ?_) (fun c_2 => ?_)
    · have h := ifp c_2 h
      refine lv_iconst (v := 0) hx hb dX12_isOne_18 (by decide) ?_
      exact r_zret X (Or.inl rfl) hP hS dX12_isOne_19 h
    · have h := ifn c_2 h
      refine lv_iconst (v := 1) hx hb dX12_isOne_14 (by decide) ?_
      refine lv_goto (tgt := 19) hx hb dX12_isOne_15 (by decide) ?_
      exact r_zret X (Or.inr rfl) hP hS dX12_isOne_19 h

def fX12_isMachine (a1 : Int32) (m : Mm) : Option (Int32 × Mm) := (if a1 < 0 then some (0, m) else (if (6 : Int32) ≤ a1 then some (0, m) else some (1, m)))
set_option maxHeartbeats 4000000 in
set_option maxRecDepth 100000 in
theorem tX12_isMachine {l : Launch} {D : va_G} {cA : Nat → ClassId} {A : Nat → Nat} (hI : InjA rN A) {a1 : Int32} {m m' : Mm} {r : Int32} (h : fX12_isMachine a1 m = some (r, m')) : Met0 l yX12_isMachine cX12_isMachine 1 (some .boolean) { frames := 0, cells := 0, slots := 0, locals := 0 } rLay rN D cA A [.int a1] m (some (.int r)) m' := by
  refine met0_of (by decide) (Nat.le_of_ble_eq_true rfl) hI ?_
  intro p e s m0 below meth c ls X hinit hP hS hl
  generalize ([.int a1] : List Value).toArray = args at X ⊢
  have hl : lv_has ls 1 [(0, .int a1)] := hl
  have X : CX rLay rN D cA A p s m0 args meth c "BenchTowelsModel" cX12_isMachine 1 (some .boolean) := X
  have hx := X.1
  have hb := X.2.1
  have hml := X.2.2.1
  have hown := X.2.2.2.1
  have hts := X.2.2.2.2.1
  have hF := X.2.2.2.2.2.2.2.2.1
  rewrite [fX12_isMachine] at h
  refine lv_iload_n hx hb dX12_isMachine_0 rfl (lv_at hl 0 rfl) ?_
  refine lv_if_lt (tgt := 14) hx hb dX12_isMachine_1 (by decide) (fun c_1 => ?_) (fun c_1 => ?_)
  · have h := ifp c_1 h
    refine lv_iconst (v := 0) hx hb dX12_isMachine_14 (by decide) ?_
    exact r_zret X (Or.inl rfl) hP hS dX12_isMachine_15 h
  · have h := ifn c_1 h
    refine lv_iload_n hx hb dX12_isMachine_4 rfl (lv_at hl 0 rfl) ?_
    refine lv_bipush (v := 6) hx hb dX12_isMachine_5 (by decide) ?_
    refine lv_icmp_ge (tgt := 14) hx hb dX12_isMachine_7 (by decide) (fun c_2 => ?_) (fun c_2 => ?_)
    · have h := ifp c_2 h
      refine lv_iconst (v := 0) hx hb dX12_isMachine_14 (by decide) ?_
      exact r_zret X (Or.inl rfl) hP hS dX12_isMachine_15 h
    · have h := ifn c_2 h
      refine lv_iconst (v := 1) hx hb dX12_isMachine_10 (by decide) ?_
      refine lv_goto (tgt := 15) hx hb dX12_isMachine_11 (by decide) ?_
      exact r_zret X (Or.inr rfl) hP hS dX12_isMachine_15 h

def fX12_its (a1 : Int32) (a2 : Int32) (m : Mm) : Option (Int32 × Mm) := gx (((8 : Int32) + ((5 : Int32) * a1)) + a2) 553 (some ((m 1 (ix (((8 : Int32) + ((5 : Int32) * a1)) + a2))), m))
set_option maxHeartbeats 4000000 in
set_option maxRecDepth 100000 in
theorem tX12_its {l : Launch} {D : va_G} {cA : Nat → ClassId} {A : Nat → Nat} (hI : InjA rN A) {a1 : Int32} {a2 : Int32} {m m' : Mm} {r : Int32} (h : fX12_its a1 a2 m = some (r, m')) : Met0 l yX12_its cX12_its 3 (some .int) { frames := 0, cells := 0, slots := 0, locals := 0 } rLay rN D cA A [.ref (A 0), .int a1, .int a2] m (some (.int r)) m' := by
  refine met0_of (by decide) (Nat.le_of_ble_eq_true rfl) hI ?_
  intro p e s m0 below meth c ls X hinit hP hS hl
  generalize ([.ref (A 0), .int a1, .int a2] : List Value).toArray = args at X ⊢
  have hl : lv_has ls 3 [(0, .ref (A 0)), (1, .int a1), (2, .int a2)] := hl
  have X : CX rLay rN D cA A p s m0 args meth c "BenchTowelsModel" cX12_its 3 (some .int) := X
  have hx := X.1
  have hb := X.2.1
  have hml := X.2.2.1
  have hown := X.2.2.2.1
  have hts := X.2.2.2.2.1
  have hF := X.2.2.2.2.2.2.2.2.1
  rewrite [fX12_its] at h
  refine lv_aload_n hx hb dX12_its_0 rfl (lv_at hl 0 rfl) ?_
  refine r_get kc_12 0 X hP (by decide) (L_ref _) (by decide) rfl wt_5_172 dX12_its_1 ?_
  refine lv_bipush (v := 8) hx hb dX12_its_4 (by decide) ?_
  refine lv_iconst (v := 5) hx hb dX12_its_6 (by decide) ?_
  refine lv_iload_n hx hb dX12_its_7 rfl (lv_at hl 1 rfl) ?_
  refine lv_imul hx hb dX12_its_8 ?_
  refine lv_iadd hx hb dX12_its_9 ?_
  refine lv_iload_n hx hb dX12_its_10 rfl (lv_at hl 2 rfl) ?_
  refine lv_iadd hx hb dX12_its_11 ?_
  obtain ⟨hin_1, h⟩ := gx_some h
  refine r_iald X hP (by decide) (Lr_1 _) hin_1 rfl dX12_its_12 ?_
  exact r_iret X hP hS dX12_its_13 h

def fX12_becomes (a1 : Int32) (a2 : Int32) (m : Mm) : Option (Int32 × Mm) := gx a1 553 (lt (m 1 (ix a1)) fun x3_2 => lt (up m 1 (ix a1) a2) fun m_4 => some (x3_2, m_4))
set_option maxHeartbeats 4000000 in
set_option maxRecDepth 100000 in
theorem tX12_becomes {l : Launch} {D : va_G} {cA : Nat → ClassId} {A : Nat → Nat} (hI : InjA rN A) {a1 : Int32} {a2 : Int32} {m m' : Mm} {r : Int32} (h : fX12_becomes a1 a2 m = some (r, m')) : Met0 l yX12_becomes cX12_becomes 4 (some .int) { frames := 0, cells := 0, slots := 0, locals := 0 } rLay rN D cA A [.ref (A 0), .int a1, .int a2] m (some (.int r)) m' := by
  refine met0_of (by decide) (Nat.le_of_ble_eq_true rfl) hI ?_
  intro p e s m0 below meth c ls X hinit hP hS hl
  generalize ([.ref (A 0), .int a1, .int a2] : List Value).toArray = args at X ⊢
  have hl : lv_has ls 4 [(0, .ref (A 0)), (1, .int a1), (2, .int a2)] := hl
  have X : CX rLay rN D cA A p s m0 args meth c "BenchTowelsModel" cX12_becomes 4 (some .int) := X
  have hx := X.1
  have hb := X.2.1
  have hml := X.2.2.1
  have hown := X.2.2.2.1
  have hts := X.2.2.2.2.1
  have hF := X.2.2.2.2.2.2.2.2.1
  rewrite [fX12_becomes] at h
  refine lv_aload_n hx hb dX12_becomes_0 rfl (lv_at hl 0 rfl) ?_
  refine r_get kc_12 0 X hP (by decide) (L_ref _) (by decide) rfl wt_5_172 dX12_becomes_1 ?_
  refine lv_iload_n hx hb dX12_becomes_4 rfl (lv_at hl 1 rfl) ?_
  obtain ⟨hin_1, h⟩ := gx_some h
  refine r_iald X hP (by decide) (Lr_1 _) hin_1 rfl dX12_becomes_5 ?_
  obtain ⟨x3_2, ex_3, h⟩ := lt_some h
  refine lv_ren ex_3 ?_
  refine lv_istore_n (lv' := [(3, .int x3_2), (0, .ref (A 0)), (1, .int a1), (2, .int a2)]) hx hb dX12_becomes_6 rfl hl (by decide) rfl (fun ls hl => ?_)
  refine lv_aload_n hx hb dX12_becomes_7 rfl (lv_at hl 1 rfl) ?_
  refine r_get kc_12 0 X hP (by decide) (L_ref _) (by decide) rfl wt_5_172 dX12_becomes_8 ?_
  refine lv_iload_n hx hb dX12_becomes_11 rfl (lv_at hl 2 rfl) ?_
  refine lv_iload_n hx hb dX12_becomes_12 rfl (lv_at hl 3 rfl) ?_
  obtain ⟨m_4, em_5, h⟩ := lt_some h
  refine r_iast X hP hS (by decide) Lr_1 hin_1 rfl dX12_becomes_13 em_5 (fun H locs hP hS => ?_)
  refine lv_iload_n hx hb dX12_becomes_14 rfl (lv_at hl 0 rfl) ?_
  exact r_iret X hP hS dX12_becomes_15 h

def fX12_laysAside_2  : Nat → Int32 → Int32 → Mm → Option (Int32 × Mm)
  | 0, _, _, _ => none
  | n + 1, x1, x2, m => (if (47 : Int32) ≤ x2 then some (0, m) else gx x2 553 (gx (((47 : Int32) * x1) + x2) 235 (lt (up m 3 (ix (((47 : Int32) * x1) + x2)) (m 1 (ix x2))) fun m_4 => lt ((x2 : Int32) + 1) fun x2_6 => (fX12_laysAside_2 n x1 x2_6 m_4))))
set_option maxHeartbeats 4000000 in
set_option maxRecDepth 100000 in
theorem tX12_laysAside_2 (hI : InjA rN A)  {r : Int32} {m' : Mm} (X : CX rLay rN D cA A p s m0 args meth c "BenchTowelsModel" cX12_laysAside 3 none) : ∀ (n : Nat) (x1 : Int32) (x2 : Int32) (m : Mm) (H : Heap) (locs : List Loc) (ls : Array Slot), fX12_laysAside_2 n x1 x2 m = some (r, m') → va_P D vwCl (wsOf rLay rN cA A m) H → va_S (AW rN A) s.heap H locs → lv_has ls 3 [(0, .ref (A 0)), (1, .int x1), (2, .int x2)] → W p l e { frames := 0, cells := 0, slots := 0, locals := 0 } s m0 args below meth c H locs 0 0 (ZR below args s rLay rN D cA A none m') (F0 m0 2 ls []) := by
  have hx := X.1
  have hb := X.2.1
  have hml := X.2.2.1
  have hown := X.2.2.2.1
  have hts := X.2.2.2.2.1
  have hF := X.2.2.2.2.2.2.2.2.1
  intro n
  induction n with
  | zero =>
    intro x1 x2 m H locs ls h hP hS hl
    exact absurd h (by rewrite [fX12_laysAside_2]; exact fun q => by cases q)
  | succ n ih =>
    intro x1 x2 m H locs ls h hP hS hl
    rewrite [fX12_laysAside_2] at h
    refine lv_iload_n hx hb dX12_laysAside_2 rfl (lv_at hl 2 rfl) ?_
    refine lv_bipush (v := 47) hx hb dX12_laysAside_3 (by decide) ?_
    refine lv_icmp_ge (tgt := 31) hx hb dX12_laysAside_5 (by decide) (fun c_1 => ?_) (fun c_1 => ?_)
    · have h := ifp c_1 h
      exact r_vret X hP hS dX12_laysAside_31 h
    · have h := ifn c_1 h
      refine lv_aload_n hx hb dX12_laysAside_8 rfl (lv_at hl 0 rfl) ?_
      refine r_get kc_12 3 X hP (by decide) (L_ref _) (by decide) rfl wt_5_175 dX12_laysAside_9 ?_
      refine lv_bipush (v := 47) hx hb dX12_laysAside_12 (by decide) ?_
      refine lv_iload_n hx hb dX12_laysAside_14 rfl (lv_at hl 1 rfl) ?_
      refine lv_imul hx hb dX12_laysAside_15 ?_
      refine lv_iload_n hx hb dX12_laysAside_16 rfl (lv_at hl 2 rfl) ?_
      refine lv_iadd hx hb dX12_laysAside_17 ?_
      refine lv_aload_n hx hb dX12_laysAside_18 rfl (lv_at hl 0 rfl) ?_
      refine r_get kc_12 0 X hP (by decide) (L_ref _) (by decide) rfl wt_5_172 dX12_laysAside_19 ?_
      refine lv_iload_n hx hb dX12_laysAside_22 rfl (lv_at hl 2 rfl) ?_
      obtain ⟨hin_2, h⟩ := gx_some h
      refine r_iald X hP (by decide) (Lr_1 _) hin_2 rfl dX12_laysAside_23 ?_
      obtain ⟨hin_3, h⟩ := gx_some h
      obtain ⟨m_4, em_5, h⟩ := lt_some h
      refine r_iast X hP hS (by decide) Lr_3 hin_3 rfl dX12_laysAside_24 em_5 (fun H locs hP hS => ?_)
      obtain ⟨x2_6, ex_7, h⟩ := lt_some h
      refine lv_iinc (v := x2_6) (lv' := [(2, .int x2_6), (0, .ref (A 0)), (1, .int x1)]) hx hb dX12_laysAside_25 hl (k := 2) rfl (by rw [ex_7]; rfl) (by decide) rfl (fun ls hl => ?_)
      refine lv_goto (tgt := 2) hx hb dX12_laysAside_28 (by decide) ?_
      exact ih x1 x2_6 m_4 _ _ _  h hP hS (lv_sub hl [1, 2, 0] rfl)

def fX12_laysAside (a1 : Int32) (m : Mm) : Option (Int32 × Mm) := (fX12_laysAside_2  FL a1 0 m)
set_option maxHeartbeats 4000000 in
set_option maxRecDepth 100000 in
theorem tX12_laysAside {l : Launch} {D : va_G} {cA : Nat → ClassId} {A : Nat → Nat} (hI : InjA rN A) {a1 : Int32} {m m' : Mm} {r : Int32} (h : fX12_laysAside a1 m = some (r, m')) : Met0 l yX12_laysAside cX12_laysAside 3 none { frames := 0, cells := 0, slots := 0, locals := 0 } rLay rN D cA A [.ref (A 0), .int a1] m none m' := by
  refine met0_of (by decide) (Nat.le_of_ble_eq_true rfl) hI ?_
  intro p e s m0 below meth c ls X hinit hP hS hl
  generalize ([.ref (A 0), .int a1] : List Value).toArray = args at X ⊢
  have hl : lv_has ls 3 [(0, .ref (A 0)), (1, .int a1)] := hl
  have X : CX rLay rN D cA A p s m0 args meth c "BenchTowelsModel" cX12_laysAside 3 none := X
  have hx := X.1
  have hb := X.2.1
  have hml := X.2.2.1
  have hown := X.2.2.2.1
  have hts := X.2.2.2.2.1
  have hF := X.2.2.2.2.2.2.2.2.1
  rewrite [fX12_laysAside] at h
  refine lv_iconst (v := 0) hx hb dX12_laysAside_0 (by decide) ?_
  refine lv_istore_n (lv' := [(2, .int 0), (0, .ref (A 0)), (1, .int a1)]) hx hb dX12_laysAside_1 rfl hl (by decide) rfl (fun ls hl => ?_)
  exact tX12_laysAside_2 hI    X FL a1 0 m _ _ _  h hP hS (lv_sub hl [1, 2, 0] rfl)

def fX12_laysBack_2  : Nat → Int32 → Int32 → Mm → Option (Int32 × Mm)
  | 0, _, _, _ => none
  | n + 1, x1, x2, m => (if (47 : Int32) ≤ x2 then some (0, m) else gx (((47 : Int32) * x1) + x2) 235 (gx x2 553 (lt (up m 1 (ix x2) (m 3 (ix (((47 : Int32) * x1) + x2)))) fun m_4 => lt ((x2 : Int32) + 1) fun x2_6 => (fX12_laysBack_2 n x1 x2_6 m_4))))
set_option maxHeartbeats 4000000 in
set_option maxRecDepth 100000 in
theorem tX12_laysBack_2 (hI : InjA rN A)  {r : Int32} {m' : Mm} (X : CX rLay rN D cA A p s m0 args meth c "BenchTowelsModel" cX12_laysBack 3 none) : ∀ (n : Nat) (x1 : Int32) (x2 : Int32) (m : Mm) (H : Heap) (locs : List Loc) (ls : Array Slot), fX12_laysBack_2 n x1 x2 m = some (r, m') → va_P D vwCl (wsOf rLay rN cA A m) H → va_S (AW rN A) s.heap H locs → lv_has ls 3 [(0, .ref (A 0)), (1, .int x1), (2, .int x2)] → W p l e { frames := 0, cells := 0, slots := 0, locals := 0 } s m0 args below meth c H locs 0 0 (ZR below args s rLay rN D cA A none m') (F0 m0 2 ls []) := by
  have hx := X.1
  have hb := X.2.1
  have hml := X.2.2.1
  have hown := X.2.2.2.1
  have hts := X.2.2.2.2.1
  have hF := X.2.2.2.2.2.2.2.2.1
  intro n
  induction n with
  | zero =>
    intro x1 x2 m H locs ls h hP hS hl
    exact absurd h (by rewrite [fX12_laysBack_2]; exact fun q => by cases q)
  | succ n ih =>
    intro x1 x2 m H locs ls h hP hS hl
    rewrite [fX12_laysBack_2] at h
    refine lv_iload_n hx hb dX12_laysBack_2 rfl (lv_at hl 2 rfl) ?_
    refine lv_bipush (v := 47) hx hb dX12_laysBack_3 (by decide) ?_
    refine lv_icmp_ge (tgt := 31) hx hb dX12_laysBack_5 (by decide) (fun c_1 => ?_) (fun c_1 => ?_)
    · have h := ifp c_1 h
      exact r_vret X hP hS dX12_laysBack_31 h
    · have h := ifn c_1 h
      refine lv_aload_n hx hb dX12_laysBack_8 rfl (lv_at hl 0 rfl) ?_
      refine r_get kc_12 0 X hP (by decide) (L_ref _) (by decide) rfl wt_5_172 dX12_laysBack_9 ?_
      refine lv_iload_n hx hb dX12_laysBack_12 rfl (lv_at hl 2 rfl) ?_
      refine lv_aload_n hx hb dX12_laysBack_13 rfl (lv_at hl 0 rfl) ?_
      refine r_get kc_12 3 X hP (by decide) (L_ref _) (by decide) rfl wt_5_175 dX12_laysBack_14 ?_
      refine lv_bipush (v := 47) hx hb dX12_laysBack_17 (by decide) ?_
      refine lv_iload_n hx hb dX12_laysBack_19 rfl (lv_at hl 1 rfl) ?_
      refine lv_imul hx hb dX12_laysBack_20 ?_
      refine lv_iload_n hx hb dX12_laysBack_21 rfl (lv_at hl 2 rfl) ?_
      refine lv_iadd hx hb dX12_laysBack_22 ?_
      obtain ⟨hin_2, h⟩ := gx_some h
      refine r_iald X hP (by decide) (Lr_3 _) hin_2 rfl dX12_laysBack_23 ?_
      obtain ⟨hin_3, h⟩ := gx_some h
      obtain ⟨m_4, em_5, h⟩ := lt_some h
      refine r_iast X hP hS (by decide) Lr_1 hin_3 rfl dX12_laysBack_24 em_5 (fun H locs hP hS => ?_)
      obtain ⟨x2_6, ex_7, h⟩ := lt_some h
      refine lv_iinc (v := x2_6) (lv' := [(2, .int x2_6), (0, .ref (A 0)), (1, .int x1)]) hx hb dX12_laysBack_25 hl (k := 2) rfl (by rw [ex_7]; rfl) (by decide) rfl (fun ls hl => ?_)
      refine lv_goto (tgt := 2) hx hb dX12_laysBack_28 (by decide) ?_
      exact ih x1 x2_6 m_4 _ _ _  h hP hS (lv_sub hl [1, 2, 0] rfl)

def fX12_laysBack (a1 : Int32) (m : Mm) : Option (Int32 × Mm) := (fX12_laysBack_2  FL a1 0 m)
set_option maxHeartbeats 4000000 in
set_option maxRecDepth 100000 in
theorem tX12_laysBack {l : Launch} {D : va_G} {cA : Nat → ClassId} {A : Nat → Nat} (hI : InjA rN A) {a1 : Int32} {m m' : Mm} {r : Int32} (h : fX12_laysBack a1 m = some (r, m')) : Met0 l yX12_laysBack cX12_laysBack 3 none { frames := 0, cells := 0, slots := 0, locals := 0 } rLay rN D cA A [.ref (A 0), .int a1] m none m' := by
  refine met0_of (by decide) (Nat.le_of_ble_eq_true rfl) hI ?_
  intro p e s m0 below meth c ls X hinit hP hS hl
  generalize ([.ref (A 0), .int a1] : List Value).toArray = args at X ⊢
  have hl : lv_has ls 3 [(0, .ref (A 0)), (1, .int a1)] := hl
  have X : CX rLay rN D cA A p s m0 args meth c "BenchTowelsModel" cX12_laysBack 3 none := X
  have hx := X.1
  have hb := X.2.1
  have hml := X.2.2.1
  have hown := X.2.2.2.1
  have hts := X.2.2.2.2.1
  have hF := X.2.2.2.2.2.2.2.2.1
  rewrite [fX12_laysBack] at h
  refine lv_iconst (v := 0) hx hb dX12_laysBack_0 (by decide) ?_
  refine lv_istore_n (lv' := [(2, .int 0), (0, .ref (A 0)), (1, .int a1)]) hx hb dX12_laysBack_1 rfl hl (by decide) rfl (fun ls hl => ?_)
  exact tX12_laysBack_2 hI    X FL a1 0 m _ _ _  h hP hS (lv_sub hl [1, 2, 0] rfl)

def fX12_isOver  (m : Mm) : Option (Int32 × Mm) := (if (m 1 1) < (m 1 2) then some (0, m) else some (1, m))
set_option maxHeartbeats 4000000 in
set_option maxRecDepth 100000 in
theorem tX12_isOver {l : Launch} {D : va_G} {cA : Nat → ClassId} {A : Nat → Nat} (hI : InjA rN A) {m m' : Mm} {r : Int32} (h : fX12_isOver m = some (r, m')) : Met0 l yX12_isOver cX12_isOver 1 (some .boolean) { frames := 0, cells := 0, slots := 0, locals := 0 } rLay rN D cA A [.ref (A 0)] m (some (.int r)) m' := by
  refine met0_of (by decide) (Nat.le_of_ble_eq_true rfl) hI ?_
  intro p e s m0 below meth c ls X hinit hP hS hl
  generalize ([.ref (A 0)] : List Value).toArray = args at X ⊢
  have hl : lv_has ls 1 [(0, .ref (A 0))] := hl
  have X : CX rLay rN D cA A p s m0 args meth c "BenchTowelsModel" cX12_isOver 1 (some .boolean) := X
  have hx := X.1
  have hb := X.2.1
  have hml := X.2.2.1
  have hown := X.2.2.2.1
  have hts := X.2.2.2.2.1
  have hF := X.2.2.2.2.2.2.2.2.1
  rewrite [fX12_isOver] at h
  refine lv_aload_n hx hb dX12_isOver_0 rfl (lv_at hl 0 rfl) ?_
  refine r_get kc_12 0 X hP (by decide) (L_ref _) (by decide) rfl wt_5_172 dX12_isOver_1 ?_
  refine lv_iconst (v := 1) hx hb dX12_isOver_4 (by decide) ?_
  refine r_iald X hP (by decide) (Lr_1 _) (vpc (by decide)) ixc_1 dX12_isOver_5 ?_
  refine lv_aload_n hx hb dX12_isOver_6 rfl (lv_at hl 0 rfl) ?_
  refine r_get kc_12 0 X hP (by decide) (L_ref _) (by decide) rfl wt_5_172 dX12_isOver_7 ?_
  refine lv_iconst (v := 2) hx hb dX12_isOver_10 (by decide) ?_
  refine r_iald X hP (by decide) (Lr_1 _) (vpc (by decide)) ixc_2 dX12_isOver_11 ?_
  refine lv_icmp_lt (tgt := 19) hx hb dX12_isOver_12 (by decide) (fun c_1 => ?_) (fun c_1 => ?_)
  · have h := ifp c_1 h
    refine lv_iconst (v := 0) hx hb dX12_isOver_19 (by decide) ?_
    exact r_zret X (Or.inl rfl) hP hS dX12_isOver_20 h
  · have h := ifn c_1 h
    refine lv_iconst (v := 1) hx hb dX12_isOver_15 (by decide) ?_
    refine lv_goto (tgt := 20) hx hb dX12_isOver_16 (by decide) ?_
    exact r_zret X (Or.inr rfl) hP hS dX12_isOver_20 h

def fX12_size_4  : Nat → Int32 → Int32 → Mm → Option (Int32 × Mm)
  | 0, _, _, _ => none
  | n + 1, x1, x2, m => (if x2 = 0 then some (x1, m) else lt ((x1 : Int32) + 1) fun x1_2 => lt (x2 &&& (x2 - 1)) fun x2_4 => (fX12_size_4 n x1_2 x2_4 m))
set_option maxHeartbeats 4000000 in
set_option maxRecDepth 100000 in
theorem tX12_size_4 (hI : InjA rN A)  {r : Int32} {m' : Mm} (X : CX rLay rN D cA A p s m0 args meth c "BenchTowelsModel" cX12_size 3 (some .int)) : ∀ (n : Nat) (x1 : Int32) (x2 : Int32) (m : Mm) (H : Heap) (locs : List Loc) (ls : Array Slot), fX12_size_4 n x1 x2 m = some (r, m') → va_P D vwCl (wsOf rLay rN cA A m) H → va_S (AW rN A) s.heap H locs → lv_has ls 3 [(1, .int x1), (2, .int x2)] → W p l e { frames := 0, cells := 0, slots := 0, locals := 0 } s m0 args below meth c H locs 0 0 (ZR below args s rLay rN D cA A (some (.int r)) m') (F0 m0 4 ls []) := by
  have hx := X.1
  have hb := X.2.1
  have hml := X.2.2.1
  have hown := X.2.2.2.1
  have hts := X.2.2.2.2.1
  have hF := X.2.2.2.2.2.2.2.2.1
  intro n
  induction n with
  | zero =>
    intro x1 x2 m H locs ls h hP hS hl
    exact absurd h (by rewrite [fX12_size_4]; exact fun q => by cases q)
  | succ n ih =>
    intro x1 x2 m H locs ls h hP hS hl
    rewrite [fX12_size_4] at h
    refine lv_iload_n hx hb dX12_size_4 rfl (lv_at hl 1 rfl) ?_
    refine lv_if_eq (tgt := 20) hx hb dX12_size_5 (by decide) (fun c_1 => ?_) (fun c_1 => ?_)
    · have h := ifp c_1 h
      refine lv_iload_n hx hb dX12_size_20 rfl (lv_at hl 0 rfl) ?_
      exact r_iret X hP hS dX12_size_21 h
    · have h := ifn c_1 h
      obtain ⟨x1_2, ex_3, h⟩ := lt_some h
      refine lv_iinc (v := x1_2) (lv' := [(1, .int x1_2), (2, .int x2)]) hx hb dX12_size_8 hl (k := 0) rfl (by rw [ex_3]; rfl) (by decide) rfl (fun ls hl => ?_)
      refine lv_iload_n hx hb dX12_size_11 rfl (lv_at hl 1 rfl) ?_
      refine lv_iload_n hx hb dX12_size_12 rfl (lv_at hl 1 rfl) ?_
      refine lv_iconst (v := 1) hx hb dX12_size_13 (by decide) ?_
      refine lv_isub hx hb dX12_size_14 ?_
      refine lv_iand hx hb dX12_size_15 ?_
      obtain ⟨x2_4, ex_5, h⟩ := lt_some h
      refine lv_ren ex_5 ?_
      refine lv_istore_n (lv' := [(2, .int x2_4), (1, .int x1_2)]) hx hb dX12_size_16 rfl hl (by decide) rfl (fun ls hl => ?_)
      refine lv_goto (tgt := 4) hx hb dX12_size_17 (by decide) ?_
      exact ih x1_2 x2_4 m _ _ _  h hP hS (lv_sub hl [1, 0] rfl)

def fX12_size (a1 : Int32) (m : Mm) : Option (Int32 × Mm) := (fX12_size_4  FL 0 a1 m)
set_option maxHeartbeats 4000000 in
set_option maxRecDepth 100000 in
theorem tX12_size {l : Launch} {D : va_G} {cA : Nat → ClassId} {A : Nat → Nat} (hI : InjA rN A) {a1 : Int32} {m m' : Mm} {r : Int32} (h : fX12_size a1 m = some (r, m')) : Met0 l yX12_size cX12_size 3 (some .int) { frames := 0, cells := 0, slots := 0, locals := 0 } rLay rN D cA A [.int a1] m (some (.int r)) m' := by
  refine met0_of (by decide) (Nat.le_of_ble_eq_true rfl) hI ?_
  intro p e s m0 below meth c ls X hinit hP hS hl
  generalize ([.int a1] : List Value).toArray = args at X ⊢
  have hl : lv_has ls 3 [(0, .int a1)] := hl
  have X : CX rLay rN D cA A p s m0 args meth c "BenchTowelsModel" cX12_size 3 (some .int) := X
  have hx := X.1
  have hb := X.2.1
  have hml := X.2.2.1
  have hown := X.2.2.2.1
  have hts := X.2.2.2.2.1
  have hF := X.2.2.2.2.2.2.2.2.1
  rewrite [fX12_size] at h
  refine lv_iconst (v := 0) hx hb dX12_size_0 (by decide) ?_
  refine lv_istore_n (lv' := [(1, .int 0), (0, .int a1)]) hx hb dX12_size_1 rfl hl (by decide) rfl (fun ls hl => ?_)
  refine lv_iload_n hx hb dX12_size_2 rfl (lv_at hl 1 rfl) ?_
  refine lv_istore_n (lv' := [(2, .int a1), (1, .int 0), (0, .int a1)]) hx hb dX12_size_3 rfl hl (by decide) rfl (fun ls hl => ?_)
  exact tX12_size_4 hI    X FL 0 a1 m _ _ _  h hP hS (lv_sub hl [1, 0] rfl)

def fX12_least (a1 : Int32) (a2 : Int32) (m : Mm) : Option (Int32 × Mm) := (if (a2 : Int32) ≤ a1 then some (a2, m) else some (a1, m))
set_option maxHeartbeats 4000000 in
set_option maxRecDepth 100000 in
theorem tX12_least {l : Launch} {D : va_G} {cA : Nat → ClassId} {A : Nat → Nat} (hI : InjA rN A) {a1 : Int32} {a2 : Int32} {m m' : Mm} {r : Int32} (h : fX12_least a1 a2 m = some (r, m')) : Met0 l yX12_least cX12_least 2 (some .int) { frames := 0, cells := 0, slots := 0, locals := 0 } rLay rN D cA A [.int a1, .int a2] m (some (.int r)) m' := by
  refine met0_of (by decide) (Nat.le_of_ble_eq_true rfl) hI ?_
  intro p e s m0 below meth c ls X hinit hP hS hl
  generalize ([.int a1, .int a2] : List Value).toArray = args at X ⊢
  have hl : lv_has ls 2 [(0, .int a1), (1, .int a2)] := hl
  have X : CX rLay rN D cA A p s m0 args meth c "BenchTowelsModel" cX12_least 2 (some .int) := X
  have hx := X.1
  have hb := X.2.1
  have hml := X.2.2.1
  have hown := X.2.2.2.1
  have hts := X.2.2.2.2.1
  have hF := X.2.2.2.2.2.2.2.2.1
  rewrite [fX12_least] at h
  refine lv_iload_n hx hb dX12_least_0 rfl (lv_at hl 0 rfl) ?_
  refine lv_iload_n hx hb dX12_least_1 rfl (lv_at hl 1 rfl) ?_
  refine lv_icmp_ge (tgt := 9) hx hb dX12_least_2 (by decide) (fun c_1 => ?_) (fun c_1 => ?_)
  · have h := ifp c_1 h
    refine lv_iload_n hx hb dX12_least_9 rfl (lv_at hl 1 rfl) ?_
    exact r_iret X hP hS dX12_least_10 h
  · have h := ifn c_1 h
    refine lv_iload_n hx hb dX12_least_5 rfl (lv_at hl 0 rfl) ?_
    refine lv_goto (tgt := 10) hx hb dX12_least_6 (by decide) ?_
    exact r_iret X hP hS dX12_least_10 h

def fX12_apart (a1 : Int32) (a2 : Int32) (m : Mm) : Option (Int32 × Mm) := (if (a2 : Int32) ≤ a1 then some ((a1 - a2), m) else some ((a2 - a1), m))
set_option maxHeartbeats 4000000 in
set_option maxRecDepth 100000 in
theorem tX12_apart {l : Launch} {D : va_G} {cA : Nat → ClassId} {A : Nat → Nat} (hI : InjA rN A) {a1 : Int32} {a2 : Int32} {m m' : Mm} {r : Int32} (h : fX12_apart a1 a2 m = some (r, m')) : Met0 l yX12_apart cX12_apart 2 (some .int) { frames := 0, cells := 0, slots := 0, locals := 0 } rLay rN D cA A [.int a1, .int a2] m (some (.int r)) m' := by
  refine met0_of (by decide) (Nat.le_of_ble_eq_true rfl) hI ?_
  intro p e s m0 below meth c ls X hinit hP hS hl
  generalize ([.int a1, .int a2] : List Value).toArray = args at X ⊢
  have hl : lv_has ls 2 [(0, .int a1), (1, .int a2)] := hl
  have X : CX rLay rN D cA A p s m0 args meth c "BenchTowelsModel" cX12_apart 2 (some .int) := X
  have hx := X.1
  have hb := X.2.1
  have hml := X.2.2.1
  have hown := X.2.2.2.1
  have hts := X.2.2.2.2.1
  have hF := X.2.2.2.2.2.2.2.2.1
  rewrite [fX12_apart] at h
  refine lv_iload_n hx hb dX12_apart_0 rfl (lv_at hl 0 rfl) ?_
  refine lv_iload_n hx hb dX12_apart_1 rfl (lv_at hl 1 rfl) ?_
  refine lv_icmp_ge (tgt := 11) hx hb dX12_apart_2 (by decide) (fun c_1 => ?_) (fun c_1 => ?_)
  · have h := ifp c_1 h
    refine lv_iload_n hx hb dX12_apart_11 rfl (lv_at hl 0 rfl) ?_
    refine lv_iload_n hx hb dX12_apart_12 rfl (lv_at hl 1 rfl) ?_
    refine lv_isub hx hb dX12_apart_13 ?_
    exact r_iret X hP hS dX12_apart_14 h
  · have h := ifn c_1 h
    refine lv_iload_n hx hb dX12_apart_5 rfl (lv_at hl 1 rfl) ?_
    refine lv_iload_n hx hb dX12_apart_6 rfl (lv_at hl 0 rfl) ?_
    refine lv_isub hx hb dX12_apart_7 ?_
    refine lv_goto (tgt := 14) hx hb dX12_apart_8 (by decide) ?_
    exact r_iret X hP hS dX12_apart_14 h

def fX12_set (a1 : Int32) (a2 : Int32) (a3 : Int32) (a4 : Int32) (m : Mm) : Option (Int32 × Mm) := bd (fX12_isIn (Int32.toInt64 a1) (1 : Int64) (5 : Int64) m) fun r_1 m_2 => (if r_1 = 0 then some ((-1), m_2) else bd (fX12_isMachine a2 m_2) fun r_5 m_6 => (if r_5 = 0 then some ((-1), m_6) else bd (fX12_isIn (Int32.toInt64 a3) (1 : Int64) (9 : Int64) m_6) fun r_9 m_10 => (if r_9 = 0 then some ((-1), m_10) else bd (fX12_isIn (Int32.toInt64 a4) (0 : Int64) (2 : Int64) m_10) fun r_13 m_14 => (if r_13 = 0 then some ((-1), m_14) else (if (m_14 1 0) = 6 then some ((-2), m_14) else lt ((8 : Int32) + ((5 : Int32) * (m_14 1 0))) fun x5_18 => gx x5_18 553 (lt (up m_14 1 (ix x5_18) a1) fun m_21 => gx (x5_18 + 1) 553 (lt (up m_21 1 (ix (x5_18 + 1)) a2) fun m_24 => gx (x5_18 + 2) 553 (lt (up m_24 1 (ix (x5_18 + 2)) a3) fun m_27 => gx (x5_18 + 3) 553 (lt (up m_27 1 (ix (x5_18 + 3)) a4) fun m_30 => gx (x5_18 + 4) 553 (lt (up m_30 1 (ix (x5_18 + 4)) 3) fun m_33 => lt (up m_33 1 0 ((m_33 1 0) + 1)) fun m_35 => some (((m_35 1 0) - 1), m_35)))))))))))
set_option maxHeartbeats 4000000 in
set_option maxRecDepth 100000 in
theorem tX12_set {l : Launch} {D : va_G} {cA : Nat → ClassId} {A : Nat → Nat} (hI : InjA rN A) {a1 : Int32} {a2 : Int32} {a3 : Int32} {a4 : Int32} {m m' : Mm} {r : Int32} (h : fX12_set a1 a2 a3 a4 m = some (r, m')) : Met0 l yX12_set cX12_set 6 (some .int) { frames := 1, cells := 0, slots := 0, locals := 25 } rLay rN D cA A [.ref (A 0), .int a1, .int a2, .int a3, .int a4] m (some (.int r)) m' := by
  refine met0_of (by decide) (Nat.le_of_ble_eq_true rfl) hI ?_
  intro p e s m0 below meth c ls X hinit hP hS hl
  generalize ([.ref (A 0), .int a1, .int a2, .int a3, .int a4] : List Value).toArray = args at X ⊢
  have hl : lv_has ls 6 [(0, .ref (A 0)), (1, .int a1), (2, .int a2), (3, .int a3), (4, .int a4)] := hl
  have X : CX rLay rN D cA A p s m0 args meth c "BenchTowelsModel" cX12_set 6 (some .int) := X
  have hx := X.1
  have hb := X.2.1
  have hml := X.2.2.1
  have hown := X.2.2.2.1
  have hts := X.2.2.2.2.1
  have hF := X.2.2.2.2.2.2.2.2.1
  rewrite [fX12_set] at h
  refine lv_iload_n hx hb dX12_set_0 rfl (lv_at hl 1 rfl) ?_
  refine lv_i2l hx hb dX12_set_1 rfl ?_
  refine lv_lconst (v := 1) hx hb dX12_set_2 (by decide) ?_
  refine lv_ldc2 (v := 5) hx hb hown (hts _ wt_6_54) dX12_set_3 ?_
  obtain ⟨r_1, m_2, hc_3, h⟩ := bd_some h
  refine c_S (rest := []) X hP hS (tX12_isIn hI  hc_3) wt_6_55 wt_6_56 wt_1_13 wt_6_57 hy_X12_isIn ⟨rfl, rfl⟩ ⟨Nat.le_of_ble_eq_true rfl, Nat.le_of_ble_eq_true rfl⟩ rfl hl.1 rfl (Nat.le_of_ble_eq_true rfl) dX12_set_6 rfl (fun H locs hP hS => ?_)
  refine lv_if_eq (tgt := 44) hx hb dX12_set_9 (by decide) (fun c_4 => ?_) (fun c_4 => ?_)
  · have h := ifp c_4 h
    refine lv_iconst (v := (-1)) hx hb dX12_set_44 (by decide) ?_
    exact r_iret X hP hS dX12_set_45 h
  · have h := ifn c_4 h
    refine lv_iload_n hx hb dX12_set_12 rfl (lv_at hl 2 rfl) ?_
    obtain ⟨r_5, m_6, hc_7, h⟩ := bd_some h
    refine c_S (rest := []) X hP hS (tX12_isMachine hI  hc_7) wt_6_58 wt_6_59 wt_1_13 wt_6_60 hy_X12_isMachine ⟨rfl, rfl⟩ ⟨Nat.le_of_ble_eq_true rfl, Nat.le_of_ble_eq_true rfl⟩ rfl hl.1 rfl (Nat.le_of_ble_eq_true rfl) dX12_set_13 rfl (fun H locs hP hS => ?_)
    refine lv_if_eq (tgt := 44) hx hb dX12_set_16 (by decide) (fun c_8 => ?_) (fun c_8 => ?_)
    · have h := ifp c_8 h
      refine lv_iconst (v := (-1)) hx hb dX12_set_44 (by decide) ?_
      exact r_iret X hP hS dX12_set_45 h
    · have h := ifn c_8 h
      refine lv_iload_n hx hb dX12_set_19 rfl (lv_at hl 3 rfl) ?_
      refine lv_i2l hx hb dX12_set_20 rfl ?_
      refine lv_lconst (v := 1) hx hb dX12_set_21 (by decide) ?_
      refine lv_ldc2 (v := 9) hx hb hown (hts _ wt_6_61) dX12_set_22 ?_
      obtain ⟨r_9, m_10, hc_11, h⟩ := bd_some h
      refine c_S (rest := []) X hP hS (tX12_isIn hI  hc_11) wt_6_55 wt_6_56 wt_1_13 wt_6_57 hy_X12_isIn ⟨rfl, rfl⟩ ⟨Nat.le_of_ble_eq_true rfl, Nat.le_of_ble_eq_true rfl⟩ rfl hl.1 rfl (Nat.le_of_ble_eq_true rfl) dX12_set_25 rfl (fun H locs hP hS => ?_)
      refine lv_if_eq (tgt := 44) hx hb dX12_set_28 (by decide) (fun c_12 => ?_) (fun c_12 => ?_)
      · have h := ifp c_12 h
        refine lv_iconst (v := (-1)) hx hb dX12_set_44 (by decide) ?_
        exact r_iret X hP hS dX12_set_45 h
      · have h := ifn c_12 h
        refine lv_iload hx hb dX12_set_31 (lv_at hl 4 rfl) ?_
        refine lv_i2l hx hb dX12_set_33 rfl ?_
        refine lv_lconst (v := 0) hx hb dX12_set_34 (by decide) ?_
        refine lv_ldc2 (v := 2) hx hb hown (hts _ wt_6_62) dX12_set_35 ?_
        obtain ⟨r_13, m_14, hc_15, h⟩ := bd_some h
        refine c_S (rest := []) X hP hS (tX12_isIn hI  hc_15) wt_6_55 wt_6_56 wt_1_13 wt_6_57 hy_X12_isIn ⟨rfl, rfl⟩ ⟨Nat.le_of_ble_eq_true rfl, Nat.le_of_ble_eq_true rfl⟩ rfl hl.1 rfl (Nat.le_of_ble_eq_true rfl) dX12_set_38 rfl (fun H locs hP hS => ?_)
        refine lv_if_ne (tgt := 46) hx hb dX12_set_41 (by decide) (fun c_16 => ?_) (fun c_16 => ?_)
        · have h := ifn c_16 h
          refine lv_aload_n hx hb dX12_set_46 rfl (lv_at hl 0 rfl) ?_
          refine r_get kc_12 0 X hP (by decide) (L_ref _) (by decide) rfl wt_5_172 dX12_set_47 ?_
          refine lv_iconst (v := 0) hx hb dX12_set_50 (by decide) ?_
          refine r_iald X hP (by decide) (Lr_1 _) (vpc (by decide)) ixc_0 dX12_set_51 ?_
          refine lv_bipush (v := 6) hx hb dX12_set_52 (by decide) ?_
          refine lv_icmp_ne (tgt := 60) hx hb dX12_set_54 (by decide) (fun c_17 => ?_) (fun c_17 => ?_)
          · have h := ifn c_17 h
            refine lv_bipush (v := 8) hx hb dX12_set_60 (by decide) ?_
            refine lv_iconst (v := 5) hx hb dX12_set_62 (by decide) ?_
            refine lv_aload_n hx hb dX12_set_63 rfl (lv_at hl 0 rfl) ?_
            refine r_get kc_12 0 X hP (by decide) (L_ref _) (by decide) rfl wt_5_172 dX12_set_64 ?_
            refine lv_iconst (v := 0) hx hb dX12_set_67 (by decide) ?_
            refine r_iald X hP (by decide) (Lr_1 _) (vpc (by decide)) ixc_0 dX12_set_68 ?_
            refine lv_imul hx hb dX12_set_69 ?_
            refine lv_iadd hx hb dX12_set_70 ?_
            obtain ⟨x5_18, ex_19, h⟩ := lt_some h
            refine lv_ren ex_19 ?_
            refine lv_istore (lv' := [(5, .int x5_18), (0, .ref (A 0)), (1, .int a1), (2, .int a2), (3, .int a3), (4, .int a4)]) hx hb dX12_set_71 hl (by decide) rfl (fun ls hl => ?_)
            refine lv_aload_n hx hb dX12_set_73 rfl (lv_at hl 1 rfl) ?_
            refine r_get kc_12 0 X hP (by decide) (L_ref _) (by decide) rfl wt_5_172 dX12_set_74 ?_
            refine lv_iload hx hb dX12_set_77 (lv_at hl 0 rfl) ?_
            refine lv_iload_n hx hb dX12_set_79 rfl (lv_at hl 2 rfl) ?_
            obtain ⟨hin_20, h⟩ := gx_some h
            obtain ⟨m_21, em_22, h⟩ := lt_some h
            refine r_iast X hP hS (by decide) Lr_1 hin_20 rfl dX12_set_80 em_22 (fun H locs hP hS => ?_)
            refine lv_aload_n hx hb dX12_set_81 rfl (lv_at hl 1 rfl) ?_
            refine r_get kc_12 0 X hP (by decide) (L_ref _) (by decide) rfl wt_5_172 dX12_set_82 ?_
            refine lv_iload hx hb dX12_set_85 (lv_at hl 0 rfl) ?_
            refine lv_iconst (v := 1) hx hb dX12_set_87 (by decide) ?_
            refine lv_iadd hx hb dX12_set_88 ?_
            refine lv_iload_n hx hb dX12_set_89 rfl (lv_at hl 3 rfl) ?_
            obtain ⟨hin_23, h⟩ := gx_some h
            obtain ⟨m_24, em_25, h⟩ := lt_some h
            refine r_iast X hP hS (by decide) Lr_1 hin_23 rfl dX12_set_90 em_25 (fun H locs hP hS => ?_)
            refine lv_aload_n hx hb dX12_set_91 rfl (lv_at hl 1 rfl) ?_
            refine r_get kc_12 0 X hP (by decide) (L_ref _) (by decide) rfl wt_5_172 dX12_set_92 ?_
            refine lv_iload hx hb dX12_set_95 (lv_at hl 0 rfl) ?_
            refine lv_iconst (v := 2) hx hb dX12_set_97 (by decide) ?_
            refine lv_iadd hx hb dX12_set_98 ?_
            refine lv_iload_n hx hb dX12_set_99 rfl (lv_at hl 4 rfl) ?_
            obtain ⟨hin_26, h⟩ := gx_some h
            obtain ⟨m_27, em_28, h⟩ := lt_some h
            refine r_iast X hP hS (by decide) Lr_1 hin_26 rfl dX12_set_100 em_28 (fun H locs hP hS => ?_)
            refine lv_aload_n hx hb dX12_set_101 rfl (lv_at hl 1 rfl) ?_
            refine r_get kc_12 0 X hP (by decide) (L_ref _) (by decide) rfl wt_5_172 dX12_set_102 ?_
            refine lv_iload hx hb dX12_set_105 (lv_at hl 0 rfl) ?_
            refine lv_iconst (v := 3) hx hb dX12_set_107 (by decide) ?_
            refine lv_iadd hx hb dX12_set_108 ?_
            refine lv_iload hx hb dX12_set_109 (lv_at hl 5 rfl) ?_
            obtain ⟨hin_29, h⟩ := gx_some h
            obtain ⟨m_30, em_31, h⟩ := lt_some h
            refine r_iast X hP hS (by decide) Lr_1 hin_29 rfl dX12_set_111 em_31 (fun H locs hP hS => ?_)
            refine lv_aload_n hx hb dX12_set_112 rfl (lv_at hl 1 rfl) ?_
            refine r_get kc_12 0 X hP (by decide) (L_ref _) (by decide) rfl wt_5_172 dX12_set_113 ?_
            refine lv_iload hx hb dX12_set_116 (lv_at hl 0 rfl) ?_
            refine lv_iconst (v := 4) hx hb dX12_set_118 (by decide) ?_
            refine lv_iadd hx hb dX12_set_119 ?_
            refine lv_iconst (v := 3) hx hb dX12_set_120 (by decide) ?_
            obtain ⟨hin_32, h⟩ := gx_some h
            obtain ⟨m_33, em_34, h⟩ := lt_some h
            refine r_iast X hP hS (by decide) Lr_1 hin_32 rfl dX12_set_121 em_34 (fun H locs hP hS => ?_)
            refine lv_aload_n hx hb dX12_set_122 rfl (lv_at hl 1 rfl) ?_
            refine r_get kc_12 0 X hP (by decide) (L_ref _) (by decide) rfl wt_5_172 dX12_set_123 ?_
            refine lv_iconst (v := 0) hx hb dX12_set_126 (by decide) ?_
            refine lv_dup2_11 hx hb dX12_set_127 rfl rfl ?_
            refine r_iald X hP (by decide) (Lr_1 _) (vpc (by decide)) ixc_0 dX12_set_128 ?_
            refine lv_iconst (v := 1) hx hb dX12_set_129 (by decide) ?_
            refine lv_iadd hx hb dX12_set_130 ?_
            obtain ⟨m_35, em_36, h⟩ := lt_some h
            refine r_iast X hP hS (by decide) Lr_1 (vpc (by decide)) ixc_0 dX12_set_131 em_36 (fun H locs hP hS => ?_)
            refine lv_aload_n hx hb dX12_set_132 rfl (lv_at hl 1 rfl) ?_
            refine r_get kc_12 0 X hP (by decide) (L_ref _) (by decide) rfl wt_5_172 dX12_set_133 ?_
            refine lv_iconst (v := 0) hx hb dX12_set_136 (by decide) ?_
            refine r_iald X hP (by decide) (Lr_1 _) (vpc (by decide)) ixc_0 dX12_set_137 ?_
            refine lv_iconst (v := 1) hx hb dX12_set_138 (by decide) ?_
            refine lv_isub hx hb dX12_set_139 ?_
            exact r_iret X hP hS dX12_set_140 h
          · have h := ifp c_17 h
            refine lv_bipush (v := (-2)) hx hb dX12_set_57 (by decide) ?_
            exact r_iret X hP hS dX12_set_59 h
        · have h := ifp c_16 h
          refine lv_iconst (v := (-1)) hx hb dX12_set_44 (by decide) ?_
          exact r_iret X hP hS dX12_set_45 h

def fX12_isTaken (a1 : Int32) (a2 : Int32) (m : Mm) : Option (Int32 × Mm) := bd (fX12_its a1 (1 : Int32) m) fun r_1 m_2 => gx ((47 : Int32) + r_1) 553 ((if (((m_2 1 (ix ((47 : Int32) + r_1))) >>> (a2 &&& 31)) &&& 1) = 1 then some (1, m_2) else some (0, m_2)))
set_option maxHeartbeats 4000000 in
set_option maxRecDepth 100000 in
theorem tX12_isTaken {l : Launch} {D : va_G} {cA : Nat → ClassId} {A : Nat → Nat} (hI : InjA rN A) {a1 : Int32} {a2 : Int32} {m m' : Mm} {r : Int32} (h : fX12_isTaken a1 a2 m = some (r, m')) : Met0 l yX12_isTaken cX12_isTaken 3 (some .boolean) { frames := 1, cells := 0, slots := 0, locals := 22 } rLay rN D cA A [.ref (A 0), .int a1, .int a2] m (some (.int r)) m' := by
  refine met0_of (by decide) (Nat.le_of_ble_eq_true rfl) hI ?_
  intro p e s m0 below meth c ls X hinit hP hS hl
  generalize ([.ref (A 0), .int a1, .int a2] : List Value).toArray = args at X ⊢
  have hl : lv_has ls 3 [(0, .ref (A 0)), (1, .int a1), (2, .int a2)] := hl
  have X : CX rLay rN D cA A p s m0 args meth c "BenchTowelsModel" cX12_isTaken 3 (some .boolean) := X
  have hx := X.1
  have hb := X.2.1
  have hml := X.2.2.1
  have hown := X.2.2.2.1
  have hts := X.2.2.2.2.1
  have hF := X.2.2.2.2.2.2.2.2.1
  rewrite [fX12_isTaken] at h
  refine lv_aload_n hx hb dX12_isTaken_0 rfl (lv_at hl 0 rfl) ?_
  refine r_get kc_12 0 X hP (by decide) (L_ref _) (by decide) rfl wt_5_172 dX12_isTaken_1 ?_
  refine lv_bipush (v := 47) hx hb dX12_isTaken_4 (by decide) ?_
  refine lv_aload_n hx hb dX12_isTaken_6 rfl (lv_at hl 0 rfl) ?_
  refine lv_iload_n hx hb dX12_isTaken_7 rfl (lv_at hl 1 rfl) ?_
  refine lv_iconst (v := 1) hx hb dX12_isTaken_8 (by decide) ?_
  obtain ⟨r_1, m_2, hc_3, h⟩ := bd_some h
  refine c_V (rest := [.int 47, .ref (A 1)]) X hP hS (tX12_its hI  hc_3) (by decide) (L_ref _) rfl wt_6_76 wt_6_78 ws_2_10 wt_1_13 wt_6_79 ⟨rfl, hy_X12_its⟩ ⟨rfl, rfl⟩ ⟨Nat.le_of_ble_eq_true rfl, Nat.le_of_ble_eq_true rfl⟩ rfl hl.1 rfl (Nat.le_of_ble_eq_true rfl) dX12_isTaken_9 rfl (fun H locs hP hS => ?_)
  refine lv_iadd hx hb dX12_isTaken_12 ?_
  obtain ⟨hin_4, h⟩ := gx_some h
  refine r_iald X hP (by decide) (Lr_1 _) hin_4 rfl dX12_isTaken_13 ?_
  refine lv_iload_n hx hb dX12_isTaken_14 rfl (lv_at hl 2 rfl) ?_
  refine lv_ishr hx hb dX12_isTaken_15 ?_
  refine lv_iconst (v := 1) hx hb dX12_isTaken_16 (by decide) ?_
  refine lv_iand hx hb dX12_isTaken_17 ?_
  refine lv_iconst (v := 1) hx hb dX12_isTaken_18 (by decide) ?_
  refine lv_icmp_ne (tgt := 26) hx hb dX12_isTaken_19 (by decide) (fun c_5 => ?_) (fun c_5 => ?_)
  · have h := ifn c_5 h
    refine lv_iconst (v := 0) hx hb dX12_isTaken_26 (by decide) ?_
    exact r_zret X (Or.inl rfl) hP hS dX12_isTaken_27 h
  · have h := ifp c_5 h
    refine lv_iconst (v := 1) hx hb dX12_isTaken_22 (by decide) ?_
    refine lv_goto (tgt := 27) hx hb dX12_isTaken_23 (by decide) ?_
    exact r_zret X (Or.inr rfl) hP hS dX12_isTaken_27 h

def fX12_may (a1 : Int32) (a2 : Int32) (m : Mm) : Option (Int32 × Mm) := bd (fX12_its a1 (0 : Int32) m) fun r_1 m_2 => (if r_1 = 1 then (if a2 ≤ 0 then some (0, m_2) else bd (fX12_isTaken a1 a2 m_2) fun r_6 m_7 => (if r_6 = 0 then some (1, m_7) else some (0, m_7))) else (if r_1 = 2 then (if (a2 - a2 / 2 * 2) = 1 then some (1, m_2) else bd (fX12_isTaken a1 a2 m_2) fun r_12 m_13 => (if r_12 = 0 then some (1, m_13) else some (0, m_13))) else (if r_1 = 3 then some (1, m_2) else (if r_1 = 4 then bd (fX12_isTaken a1 a2 m_2) fun r_18 m_19 => (if r_18 = 0 then some (1, m_19) else (if a2 ≤ 0 then some (0, m_19) else bd (fX12_isTaken a1 (a2 - 1) m_19) fun r_23 m_24 => (if r_23 = 0 then some (1, m_24) else some (0, m_24)))) else bd (fX12_isTaken a1 a2 m_2) fun r_27 m_28 => gb r_27 (some (r_27, m_28))))))
set_option maxHeartbeats 4000000 in
set_option maxRecDepth 100000 in
theorem tX12_may {l : Launch} {D : va_G} {cA : Nat → ClassId} {A : Nat → Nat} (hI : InjA rN A) {a1 : Int32} {a2 : Int32} {m m' : Mm} {r : Int32} (h : fX12_may a1 a2 m = some (r, m')) : Met0 l yX12_may cX12_may 3 (some .boolean) { frames := 2, cells := 0, slots := 0, locals := 44 } rLay rN D cA A [.ref (A 0), .int a1, .int a2] m (some (.int r)) m' := by
  refine met0_of (by decide) (Nat.le_of_ble_eq_true rfl) hI ?_
  intro p e s m0 below meth c ls X hinit hP hS hl
  generalize ([.ref (A 0), .int a1, .int a2] : List Value).toArray = args at X ⊢
  have hl : lv_has ls 3 [(0, .ref (A 0)), (1, .int a1), (2, .int a2)] := hl
  have X : CX rLay rN D cA A p s m0 args meth c "BenchTowelsModel" cX12_may 3 (some .boolean) := X
  have hx := X.1
  have hb := X.2.1
  have hml := X.2.2.1
  have hown := X.2.2.2.1
  have hts := X.2.2.2.2.1
  have hF := X.2.2.2.2.2.2.2.2.1
  rewrite [fX12_may] at h
  refine lv_aload_n hx hb dX12_may_0 rfl (lv_at hl 0 rfl) ?_
  refine lv_iload_n hx hb dX12_may_1 rfl (lv_at hl 1 rfl) ?_
  refine lv_iconst (v := 0) hx hb dX12_may_2 (by decide) ?_
  obtain ⟨r_1, m_2, hc_3, h⟩ := bd_some h
  refine c_V (rest := []) X hP hS (tX12_its hI  hc_3) (by decide) (L_ref _) rfl wt_6_76 wt_6_78 ws_2_10 wt_1_13 wt_6_79 ⟨rfl, hy_X12_its⟩ ⟨rfl, rfl⟩ ⟨Nat.le_of_ble_eq_true rfl, Nat.le_of_ble_eq_true rfl⟩ rfl hl.1 rfl (Nat.le_of_ble_eq_true rfl) dX12_may_3 rfl (fun H locs hP hS => ?_)
  by_cases c_4 : r_1 = 1
  · have h := ifp c_4 h
    refine lv_ren c_4.symm ?_
    refine lv_tableIn (tgt := 36) hx hb dX12_may_6 (by decide) (by decide) rfl (by decide) ?_
    refine lv_iload_n hx hb dX12_may_36 rfl (lv_at hl 2 rfl) ?_
    refine lv_if_le (tgt := 53) hx hb dX12_may_37 (by decide) (fun c_5 => ?_) (fun c_5 => ?_)
    · have h := ifp c_5 h
      refine lv_iconst (v := 0) hx hb dX12_may_53 (by decide) ?_
      exact r_zret X (Or.inl rfl) hP hS dX12_may_54 h
    · have h := ifn c_5 h
      refine lv_aload_n hx hb dX12_may_40 rfl (lv_at hl 0 rfl) ?_
      refine lv_iload_n hx hb dX12_may_41 rfl (lv_at hl 1 rfl) ?_
      refine lv_iload_n hx hb dX12_may_42 rfl (lv_at hl 2 rfl) ?_
      obtain ⟨r_6, m_7, hc_8, h⟩ := bd_some h
      refine c_V (rest := []) X hP hS (tX12_isTaken hI  hc_8) (by decide) (L_ref _) rfl wt_6_80 wt_6_82 ws_2_11 wt_1_13 wt_6_83 ⟨rfl, hy_X12_isTaken⟩ ⟨rfl, rfl⟩ ⟨Nat.le_of_ble_eq_true rfl, Nat.le_of_ble_eq_true rfl⟩ rfl hl.1 rfl (Nat.le_of_ble_eq_true rfl) dX12_may_43 rfl (fun H locs hP hS => ?_)
      refine lv_if_ne (tgt := 53) hx hb dX12_may_46 (by decide) (fun c_9 => ?_) (fun c_9 => ?_)
      · have h := ifn c_9 h
        refine lv_iconst (v := 0) hx hb dX12_may_53 (by decide) ?_
        exact r_zret X (Or.inl rfl) hP hS dX12_may_54 h
      · have h := ifp c_9 h
        refine lv_iconst (v := 1) hx hb dX12_may_49 (by decide) ?_
        refine lv_goto (tgt := 54) hx hb dX12_may_50 (by decide) ?_
        exact r_zret X (Or.inr rfl) hP hS dX12_may_54 h
  have h := ifn c_4 h
  by_cases c_10 : r_1 = 2
  · have h := ifp c_10 h
    refine lv_ren c_10.symm ?_
    refine lv_tableIn (tgt := 55) hx hb dX12_may_6 (by decide) (by decide) rfl (by decide) ?_
    refine lv_iload_n hx hb dX12_may_55 rfl (lv_at hl 2 rfl) ?_
    refine lv_iconst (v := 2) hx hb dX12_may_56 (by decide) ?_
    refine lv_irem hx hb dX12_may_57 (by decide) ?_
    refine lv_iconst (v := 1) hx hb dX12_may_58 (by decide) ?_
    refine lv_icmp_eq (tgt := 71) hx hb dX12_may_59 (by decide) (fun c_11 => ?_) (fun c_11 => ?_)
    · have h := ifp c_11 h
      refine lv_iconst (v := 1) hx hb dX12_may_71 (by decide) ?_
      refine lv_goto (tgt := 76) hx hb dX12_may_72 (by decide) ?_
      exact r_zret X (Or.inr rfl) hP hS dX12_may_76 h
    · have h := ifn c_11 h
      refine lv_aload_n hx hb dX12_may_62 rfl (lv_at hl 0 rfl) ?_
      refine lv_iload_n hx hb dX12_may_63 rfl (lv_at hl 1 rfl) ?_
      refine lv_iload_n hx hb dX12_may_64 rfl (lv_at hl 2 rfl) ?_
      obtain ⟨r_12, m_13, hc_14, h⟩ := bd_some h
      refine c_V (rest := []) X hP hS (tX12_isTaken hI  hc_14) (by decide) (L_ref _) rfl wt_6_80 wt_6_82 ws_2_11 wt_1_13 wt_6_83 ⟨rfl, hy_X12_isTaken⟩ ⟨rfl, rfl⟩ ⟨Nat.le_of_ble_eq_true rfl, Nat.le_of_ble_eq_true rfl⟩ rfl hl.1 rfl (Nat.le_of_ble_eq_true rfl) dX12_may_65 rfl (fun H locs hP hS => ?_)
      refine lv_if_ne (tgt := 75) hx hb dX12_may_68 (by decide) (fun c_15 => ?_) (fun c_15 => ?_)
      · have h := ifn c_15 h
        refine lv_iconst (v := 0) hx hb dX12_may_75 (by decide) ?_
        exact r_zret X (Or.inl rfl) hP hS dX12_may_76 h
      · have h := ifp c_15 h
        refine lv_iconst (v := 1) hx hb dX12_may_71 (by decide) ?_
        refine lv_goto (tgt := 76) hx hb dX12_may_72 (by decide) ?_
        exact r_zret X (Or.inr rfl) hP hS dX12_may_76 h
  have h := ifn c_10 h
  by_cases c_16 : r_1 = 3
  · have h := ifp c_16 h
    refine lv_ren c_16.symm ?_
    refine lv_tableIn (tgt := 77) hx hb dX12_may_6 (by decide) (by decide) rfl (by decide) ?_
    refine lv_iconst (v := 1) hx hb dX12_may_77 (by decide) ?_
    exact r_zret X (Or.inr rfl) hP hS dX12_may_78 h
  have h := ifn c_16 h
  by_cases c_17 : r_1 = 4
  · have h := ifp c_17 h
    refine lv_ren c_17.symm ?_
    refine lv_tableIn (tgt := 79) hx hb dX12_may_6 (by decide) (by decide) rfl (by decide) ?_
    refine lv_aload_n hx hb dX12_may_79 rfl (lv_at hl 0 rfl) ?_
    refine lv_iload_n hx hb dX12_may_80 rfl (lv_at hl 1 rfl) ?_
    refine lv_iload_n hx hb dX12_may_81 rfl (lv_at hl 2 rfl) ?_
    obtain ⟨r_18, m_19, hc_20, h⟩ := bd_some h
    refine c_V (rest := []) X hP hS (tX12_isTaken hI  hc_20) (by decide) (L_ref _) rfl wt_6_80 wt_6_82 ws_2_11 wt_1_13 wt_6_83 ⟨rfl, hy_X12_isTaken⟩ ⟨rfl, rfl⟩ ⟨Nat.le_of_ble_eq_true rfl, Nat.le_of_ble_eq_true rfl⟩ rfl hl.1 rfl (Nat.le_of_ble_eq_true rfl) dX12_may_82 rfl (fun H locs hP hS => ?_)
    refine lv_if_eq (tgt := 103) hx hb dX12_may_85 (by decide) (fun c_21 => ?_) (fun c_21 => ?_)
    · have h := ifp c_21 h
      refine lv_iconst (v := 1) hx hb dX12_may_103 (by decide) ?_
      refine lv_goto (tgt := 108) hx hb dX12_may_104 (by decide) ?_
      exact r_zret X (Or.inr rfl) hP hS dX12_may_108 h
    · have h := ifn c_21 h
      refine lv_iload_n hx hb dX12_may_88 rfl (lv_at hl 2 rfl) ?_
      refine lv_if_le (tgt := 107) hx hb dX12_may_89 (by decide) (fun c_22 => ?_) (fun c_22 => ?_)
      · have h := ifp c_22 h
        refine lv_iconst (v := 0) hx hb dX12_may_107 (by decide) ?_
        exact r_zret X (Or.inl rfl) hP hS dX12_may_108 h
      · have h := ifn c_22 h
        refine lv_aload_n hx hb dX12_may_92 rfl (lv_at hl 0 rfl) ?_
        refine lv_iload_n hx hb dX12_may_93 rfl (lv_at hl 1 rfl) ?_
        refine lv_iload_n hx hb dX12_may_94 rfl (lv_at hl 2 rfl) ?_
        refine lv_iconst (v := 1) hx hb dX12_may_95 (by decide) ?_
        refine lv_isub hx hb dX12_may_96 ?_
        obtain ⟨r_23, m_24, hc_25, h⟩ := bd_some h
        refine c_V (rest := []) X hP hS (tX12_isTaken hI  hc_25) (by decide) (L_ref _) rfl wt_6_80 wt_6_82 ws_2_11 wt_1_13 wt_6_83 ⟨rfl, hy_X12_isTaken⟩ ⟨rfl, rfl⟩ ⟨Nat.le_of_ble_eq_true rfl, Nat.le_of_ble_eq_true rfl⟩ rfl hl.1 rfl (Nat.le_of_ble_eq_true rfl) dX12_may_97 rfl (fun H locs hP hS => ?_)
        refine lv_if_ne (tgt := 107) hx hb dX12_may_100 (by decide) (fun c_26 => ?_) (fun c_26 => ?_)
        · have h := ifn c_26 h
          refine lv_iconst (v := 0) hx hb dX12_may_107 (by decide) ?_
          exact r_zret X (Or.inl rfl) hP hS dX12_may_108 h
        · have h := ifp c_26 h
          refine lv_iconst (v := 1) hx hb dX12_may_103 (by decide) ?_
          refine lv_goto (tgt := 108) hx hb dX12_may_104 (by decide) ?_
          exact r_zret X (Or.inr rfl) hP hS dX12_may_108 h
  have h := ifn c_17 h
  refine lv_tableOut (tgt := 109) hx hb dX12_may_6 (by have q1001 : r_1.toInt ≠ 1 := fun q => c_4 (Int32.toInt_inj.mp (q.trans (by decide)));  have q1002 : r_1.toInt ≠ 2 := fun q => c_10 (Int32.toInt_inj.mp (q.trans (by decide)));  have q1003 : r_1.toInt ≠ 3 := fun q => c_16 (Int32.toInt_inj.mp (q.trans (by decide)));  have q1004 : r_1.toInt ≠ 4 := fun q => c_17 (Int32.toInt_inj.mp (q.trans (by decide)));  omega) (by decide) ?_
  refine lv_aload_n hx hb dX12_may_109 rfl (lv_at hl 0 rfl) ?_
  refine lv_iload_n hx hb dX12_may_110 rfl (lv_at hl 1 rfl) ?_
  refine lv_iload_n hx hb dX12_may_111 rfl (lv_at hl 2 rfl) ?_
  obtain ⟨r_27, m_28, hc_29, h⟩ := bd_some h
  refine c_V (rest := []) X hP hS (tX12_isTaken hI  hc_29) (by decide) (L_ref _) rfl wt_6_80 wt_6_82 ws_2_11 wt_1_13 wt_6_83 ⟨rfl, hy_X12_isTaken⟩ ⟨rfl, rfl⟩ ⟨Nat.le_of_ble_eq_true rfl, Nat.le_of_ble_eq_true rfl⟩ rfl hl.1 rfl (Nat.le_of_ble_eq_true rfl) dX12_may_112 rfl (fun H locs hP hS => ?_)
  obtain ⟨hz_30, h⟩ := gb_some h
  exact r_zret X hz_30 hP hS dX12_may_115 h

def fX12_gains (a1 : Int32) (m : Mm) : Option (Int32 × Mm) := bd (fX12_its a1 (2 : Int32) m) fun r_1 m_2 => bd (fX12_its a1 (0 : Int32) m_2) fun r_4 m_5 => (if r_4 = 1 then some ((r_1 + 2), m_5) else (if r_4 = 2 then some ((r_1 - 1), m_5) else (if r_4 = 3 then (if ((m_5 1 1) - (m_5 1 1) / 2 * 2) = 0 then some ((r_1 + 2), m_5) else some ((r_1 - 1), m_5)) else (if r_4 = 4 then some (r_1, m_5) else (if r_4 = 5 then some (((2 : Int32) * r_1), m_5) else some (r_1, m_5))))))
set_option maxHeartbeats 4000000 in
set_option maxRecDepth 100000 in
theorem tX12_gains {l : Launch} {D : va_G} {cA : Nat → ClassId} {A : Nat → Nat} (hI : InjA rN A) {a1 : Int32} {m m' : Mm} {r : Int32} (h : fX12_gains a1 m = some (r, m')) : Met0 l yX12_gains cX12_gains 3 (some .int) { frames := 1, cells := 0, slots := 0, locals := 22 } rLay rN D cA A [.ref (A 0), .int a1] m (some (.int r)) m' := by
  refine met0_of (by decide) (Nat.le_of_ble_eq_true rfl) hI ?_
  intro p e s m0 below meth c ls X hinit hP hS hl
  generalize ([.ref (A 0), .int a1] : List Value).toArray = args at X ⊢
  have hl : lv_has ls 3 [(0, .ref (A 0)), (1, .int a1)] := hl
  have X : CX rLay rN D cA A p s m0 args meth c "BenchTowelsModel" cX12_gains 3 (some .int) := X
  have hx := X.1
  have hb := X.2.1
  have hml := X.2.2.1
  have hown := X.2.2.2.1
  have hts := X.2.2.2.2.1
  have hF := X.2.2.2.2.2.2.2.2.1
  rewrite [fX12_gains] at h
  refine lv_aload_n hx hb dX12_gains_0 rfl (lv_at hl 0 rfl) ?_
  refine lv_iload_n hx hb dX12_gains_1 rfl (lv_at hl 1 rfl) ?_
  refine lv_iconst (v := 2) hx hb dX12_gains_2 (by decide) ?_
  obtain ⟨r_1, m_2, hc_3, h⟩ := bd_some h
  refine c_V (rest := []) X hP hS (tX12_its hI  hc_3) (by decide) (L_ref _) rfl wt_6_76 wt_6_78 ws_2_10 wt_1_13 wt_6_79 ⟨rfl, hy_X12_its⟩ ⟨rfl, rfl⟩ ⟨Nat.le_of_ble_eq_true rfl, Nat.le_of_ble_eq_true rfl⟩ rfl hl.1 rfl (Nat.le_of_ble_eq_true rfl) dX12_gains_3 rfl (fun H locs hP hS => ?_)
  refine lv_istore_n (lv' := [(2, .int r_1), (0, .ref (A 0)), (1, .int a1)]) hx hb dX12_gains_6 rfl hl (by decide) rfl (fun ls hl => ?_)
  refine lv_aload_n hx hb dX12_gains_7 rfl (lv_at hl 1 rfl) ?_
  refine lv_iload_n hx hb dX12_gains_8 rfl (lv_at hl 2 rfl) ?_
  refine lv_iconst (v := 0) hx hb dX12_gains_9 (by decide) ?_
  obtain ⟨r_4, m_5, hc_6, h⟩ := bd_some h
  refine c_V (rest := []) X hP hS (tX12_its hI  hc_6) (by decide) (L_ref _) rfl wt_6_76 wt_6_78 ws_2_10 wt_1_13 wt_6_79 ⟨rfl, hy_X12_its⟩ ⟨rfl, rfl⟩ ⟨Nat.le_of_ble_eq_true rfl, Nat.le_of_ble_eq_true rfl⟩ rfl hl.1 rfl (Nat.le_of_ble_eq_true rfl) dX12_gains_10 rfl (fun H locs hP hS => ?_)
  by_cases c_7 : r_4 = 1
  · have h := ifp c_7 h
    refine lv_ren c_7.symm ?_
    refine lv_tableIn (tgt := 48) hx hb dX12_gains_13 (by decide) (by decide) rfl (by decide) ?_
    refine lv_iload_n hx hb dX12_gains_48 rfl (lv_at hl 0 rfl) ?_
    refine lv_iconst (v := 2) hx hb dX12_gains_49 (by decide) ?_
    refine lv_iadd hx hb dX12_gains_50 ?_
    exact r_iret X hP hS dX12_gains_51 h
  have h := ifn c_7 h
  by_cases c_8 : r_4 = 2
  · have h := ifp c_8 h
    refine lv_ren c_8.symm ?_
    refine lv_tableIn (tgt := 52) hx hb dX12_gains_13 (by decide) (by decide) rfl (by decide) ?_
    refine lv_iload_n hx hb dX12_gains_52 rfl (lv_at hl 0 rfl) ?_
    refine lv_iconst (v := 1) hx hb dX12_gains_53 (by decide) ?_
    refine lv_isub hx hb dX12_gains_54 ?_
    exact r_iret X hP hS dX12_gains_55 h
  have h := ifn c_8 h
  by_cases c_9 : r_4 = 3
  · have h := ifp c_9 h
    refine lv_ren c_9.symm ?_
    refine lv_tableIn (tgt := 56) hx hb dX12_gains_13 (by decide) (by decide) rfl (by decide) ?_
    refine lv_aload_n hx hb dX12_gains_56 rfl (lv_at hl 1 rfl) ?_
    refine r_get kc_12 0 X hP (by decide) (L_ref _) (by decide) rfl wt_5_172 dX12_gains_57 ?_
    refine lv_iconst (v := 1) hx hb dX12_gains_60 (by decide) ?_
    refine r_iald X hP (by decide) (Lr_1 _) (vpc (by decide)) ixc_1 dX12_gains_61 ?_
    refine lv_iconst (v := 2) hx hb dX12_gains_62 (by decide) ?_
    refine lv_irem hx hb dX12_gains_63 (by decide) ?_
    refine lv_if_ne (tgt := 73) hx hb dX12_gains_64 (by decide) (fun c_10 => ?_) (fun c_10 => ?_)
    · have h := ifn c_10 h
      refine lv_iload_n hx hb dX12_gains_73 rfl (lv_at hl 0 rfl) ?_
      refine lv_iconst (v := 1) hx hb dX12_gains_74 (by decide) ?_
      refine lv_isub hx hb dX12_gains_75 ?_
      exact r_iret X hP hS dX12_gains_76 h
    · have h := ifp c_10 h
      refine lv_iload_n hx hb dX12_gains_67 rfl (lv_at hl 0 rfl) ?_
      refine lv_iconst (v := 2) hx hb dX12_gains_68 (by decide) ?_
      refine lv_iadd hx hb dX12_gains_69 ?_
      refine lv_goto (tgt := 76) hx hb dX12_gains_70 (by decide) ?_
      exact r_iret X hP hS dX12_gains_76 h
  have h := ifn c_9 h
  by_cases c_11 : r_4 = 4
  · have h := ifp c_11 h
    refine lv_ren c_11.symm ?_
    refine lv_tableIn (tgt := 81) hx hb dX12_gains_13 (by decide) (by decide) rfl (by decide) ?_
    refine lv_iload_n hx hb dX12_gains_81 rfl (lv_at hl 0 rfl) ?_
    exact r_iret X hP hS dX12_gains_82 h
  have h := ifn c_11 h
  by_cases c_12 : r_4 = 5
  · have h := ifp c_12 h
    refine lv_ren c_12.symm ?_
    refine lv_tableIn (tgt := 77) hx hb dX12_gains_13 (by decide) (by decide) rfl (by decide) ?_
    refine lv_iconst (v := 2) hx hb dX12_gains_77 (by decide) ?_
    refine lv_iload_n hx hb dX12_gains_78 rfl (lv_at hl 0 rfl) ?_
    refine lv_imul hx hb dX12_gains_79 ?_
    exact r_iret X hP hS dX12_gains_80 h
  have h := ifn c_12 h
  refine lv_tableOut (tgt := 81) hx hb dX12_gains_13 (by have q1001 : r_4.toInt ≠ 1 := fun q => c_7 (Int32.toInt_inj.mp (q.trans (by decide)));  have q1002 : r_4.toInt ≠ 2 := fun q => c_8 (Int32.toInt_inj.mp (q.trans (by decide)));  have q1003 : r_4.toInt ≠ 3 := fun q => c_9 (Int32.toInt_inj.mp (q.trans (by decide)));  have q1004 : r_4.toInt ≠ 4 := fun q => c_11 (Int32.toInt_inj.mp (q.trans (by decide)));  have q1005 : r_4.toInt ≠ 5 := fun q => c_12 (Int32.toInt_inj.mp (q.trans (by decide)));  omega) (by decide) ?_
  refine lv_iload_n hx hb dX12_gains_81 rfl (lv_at hl 0 rfl) ?_
  exact r_iret X hP hS dX12_gains_82 h

def fX12_tires (a1 : Int32) (m : Mm) : Option (Int32 × Mm) := bd (fX12_its a1 (0 : Int32) m) fun r_1 m_2 => (if r_1 = 1 then some (3, m_2) else (if r_1 = 2 then some (1, m_2) else (if r_1 = 3 then some (1, m_2) else (if r_1 = 4 then some (2, m_2) else (if r_1 = 5 then some (3, m_2) else some (1, m_2))))))
set_option maxHeartbeats 4000000 in
set_option maxRecDepth 100000 in
theorem tX12_tires {l : Launch} {D : va_G} {cA : Nat → ClassId} {A : Nat → Nat} (hI : InjA rN A) {a1 : Int32} {m m' : Mm} {r : Int32} (h : fX12_tires a1 m = some (r, m')) : Met0 l yX12_tires cX12_tires 2 (some .int) { frames := 1, cells := 0, slots := 0, locals := 22 } rLay rN D cA A [.ref (A 0), .int a1] m (some (.int r)) m' := by
  refine met0_of (by decide) (Nat.le_of_ble_eq_true rfl) hI ?_
  intro p e s m0 below meth c ls X hinit hP hS hl
  generalize ([.ref (A 0), .int a1] : List Value).toArray = args at X ⊢
  have hl : lv_has ls 2 [(0, .ref (A 0)), (1, .int a1)] := hl
  have X : CX rLay rN D cA A p s m0 args meth c "BenchTowelsModel" cX12_tires 2 (some .int) := X
  have hx := X.1
  have hb := X.2.1
  have hml := X.2.2.1
  have hown := X.2.2.2.1
  have hts := X.2.2.2.2.1
  have hF := X.2.2.2.2.2.2.2.2.1
  rewrite [fX12_tires] at h
  refine lv_aload_n hx hb dX12_tires_0 rfl (lv_at hl 0 rfl) ?_
  refine lv_iload_n hx hb dX12_tires_1 rfl (lv_at hl 1 rfl) ?_
  refine lv_iconst (v := 0) hx hb dX12_tires_2 (by decide) ?_
  obtain ⟨r_1, m_2, hc_3, h⟩ := bd_some h
  refine c_V (rest := []) X hP hS (tX12_its hI  hc_3) (by decide) (L_ref _) rfl wt_6_76 wt_6_78 ws_2_10 wt_1_13 wt_6_79 ⟨rfl, hy_X12_its⟩ ⟨rfl, rfl⟩ ⟨Nat.le_of_ble_eq_true rfl, Nat.le_of_ble_eq_true rfl⟩ rfl hl.1 rfl (Nat.le_of_ble_eq_true rfl) dX12_tires_3 rfl (fun H locs hP hS => ?_)
  by_cases c_4 : r_1 = 1
  · have h := ifp c_4 h
    refine lv_ren c_4.symm ?_
    refine lv_tableIn (tgt := 40) hx hb dX12_tires_6 (by decide) (by decide) rfl (by decide) ?_
    refine lv_iconst (v := 3) hx hb dX12_tires_40 (by decide) ?_
    exact r_iret X hP hS dX12_tires_41 h
  have h := ifn c_4 h
  by_cases c_5 : r_1 = 2
  · have h := ifp c_5 h
    refine lv_ren c_5.symm ?_
    refine lv_tableIn (tgt := 44) hx hb dX12_tires_6 (by decide) (by decide) rfl (by decide) ?_
    refine lv_iconst (v := 1) hx hb dX12_tires_44 (by decide) ?_
    exact r_iret X hP hS dX12_tires_45 h
  have h := ifn c_5 h
  by_cases c_6 : r_1 = 3
  · have h := ifp c_6 h
    refine lv_ren c_6.symm ?_
    refine lv_tableIn (tgt := 44) hx hb dX12_tires_6 (by decide) (by decide) rfl (by decide) ?_
    refine lv_iconst (v := 1) hx hb dX12_tires_44 (by decide) ?_
    exact r_iret X hP hS dX12_tires_45 h
  have h := ifn c_6 h
  by_cases c_7 : r_1 = 4
  · have h := ifp c_7 h
    refine lv_ren c_7.symm ?_
    refine lv_tableIn (tgt := 42) hx hb dX12_tires_6 (by decide) (by decide) rfl (by decide) ?_
    refine lv_iconst (v := 2) hx hb dX12_tires_42 (by decide) ?_
    exact r_iret X hP hS dX12_tires_43 h
  have h := ifn c_7 h
  by_cases c_8 : r_1 = 5
  · have h := ifp c_8 h
    refine lv_ren c_8.symm ?_
    refine lv_tableIn (tgt := 40) hx hb dX12_tires_6 (by decide) (by decide) rfl (by decide) ?_
    refine lv_iconst (v := 3) hx hb dX12_tires_40 (by decide) ?_
    exact r_iret X hP hS dX12_tires_41 h
  have h := ifn c_8 h
  refine lv_tableOut (tgt := 44) hx hb dX12_tires_6 (by have q1001 : r_1.toInt ≠ 1 := fun q => c_4 (Int32.toInt_inj.mp (q.trans (by decide)));  have q1002 : r_1.toInt ≠ 2 := fun q => c_5 (Int32.toInt_inj.mp (q.trans (by decide)));  have q1003 : r_1.toInt ≠ 3 := fun q => c_6 (Int32.toInt_inj.mp (q.trans (by decide)));  have q1004 : r_1.toInt ≠ 4 := fun q => c_7 (Int32.toInt_inj.mp (q.trans (by decide)));  have q1005 : r_1.toInt ≠ 5 := fun q => c_8 (Int32.toInt_inj.mp (q.trans (by decide)));  omega) (by decide) ?_
  refine lv_iconst (v := 1) hx hb dX12_tires_44 (by decide) ?_
  exact r_iret X hP hS dX12_tires_45 h

def fX12_isUnder_19  (x0 : Int32) (x1 : Int32) (m : Mm) : Option (Int32 × Mm) := (if x1 = 4 then (if x0 = 5 then some (1, m) else some (0, m)) else some (0, m))
set_option maxHeartbeats 4000000 in
set_option maxRecDepth 100000 in
theorem tX12_isUnder_19 (hI : InjA rN A)  {r : Int32} {m' : Mm} (X : CX rLay rN D cA A p s m0 args meth c "BenchTowelsModel" cX12_isUnder 2 (some .boolean)) : ∀ (x0 : Int32) (x1 : Int32) (m : Mm) (H : Heap) (locs : List Loc) (ls : Array Slot), fX12_isUnder_19 x0 x1 m = some (r, m') → va_P D vwCl (wsOf rLay rN cA A m) H → va_S (AW rN A) s.heap H locs → lv_has ls 2 [(0, .int x0), (1, .int x1)] → W p l e { frames := 0, cells := 0, slots := 0, locals := 0 } s m0 args below meth c H locs 0 0 (ZR below args s rLay rN D cA A (some (.int r)) m') (F0 m0 19 ls []) := by
  have hx := X.1
  have hb := X.2.1
  have hml := X.2.2.1
  have hown := X.2.2.2.1
  have hts := X.2.2.2.2.1
  have hF := X.2.2.2.2.2.2.2.2.1
  intro x0 x1 m H locs ls h hP hS hl
  rewrite [fX12_isUnder_19] at h
  refine lv_iload_n hx hb dX12_isUnder_19 rfl (lv_at hl 1 rfl) ?_
  refine lv_iconst (v := 4) hx hb dX12_isUnder_20 (by decide) ?_
  refine lv_icmp_ne (tgt := 33) hx hb dX12_isUnder_21 (by decide) (fun c_4 => ?_) (fun c_4 => ?_)
  · have h := ifn c_4 h
    refine lv_iconst (v := 0) hx hb dX12_isUnder_33 (by decide) ?_
    exact r_zret X (Or.inl rfl) hP hS dX12_isUnder_34 h
  · have h := ifp c_4 h
    refine lv_iload_n hx hb dX12_isUnder_24 rfl (lv_at hl 0 rfl) ?_
    refine lv_iconst (v := 5) hx hb dX12_isUnder_25 (by decide) ?_
    refine lv_icmp_ne (tgt := 33) hx hb dX12_isUnder_26 (by decide) (fun c_5 => ?_) (fun c_5 => ?_)
    · have h := ifn c_5 h
      refine lv_iconst (v := 0) hx hb dX12_isUnder_33 (by decide) ?_
      exact r_zret X (Or.inl rfl) hP hS dX12_isUnder_34 h
    · have h := ifp c_5 h
      refine lv_iconst (v := 1) hx hb dX12_isUnder_29 (by decide) ?_
      refine lv_goto (tgt := 34) hx hb dX12_isUnder_30 (by decide) ?_
      exact r_zret X (Or.inr rfl) hP hS dX12_isUnder_34 h

def fX12_isUnder (a1 : Int32) (a2 : Int32) (m : Mm) : Option (Int32 × Mm) := (if a2 = 0 then some (1, m) else (if a1 = a2 then some (1, m) else (if a2 = 2 then (if a1 = 3 then some (1, m) else fX12_isUnder_19  a1 a2 m) else fX12_isUnder_19  a1 a2 m)))
set_option maxHeartbeats 4000000 in
set_option maxRecDepth 100000 in
theorem tX12_isUnder {l : Launch} {D : va_G} {cA : Nat → ClassId} {A : Nat → Nat} (hI : InjA rN A) {a1 : Int32} {a2 : Int32} {m m' : Mm} {r : Int32} (h : fX12_isUnder a1 a2 m = some (r, m')) : Met0 l yX12_isUnder cX12_isUnder 2 (some .boolean) { frames := 0, cells := 0, slots := 0, locals := 0 } rLay rN D cA A [.int a1, .int a2] m (some (.int r)) m' := by
  refine met0_of (by decide) (Nat.le_of_ble_eq_true rfl) hI ?_
  intro p e s m0 below meth c ls X hinit hP hS hl
  generalize ([.int a1, .int a2] : List Value).toArray = args at X ⊢
  have hl : lv_has ls 2 [(0, .int a1), (1, .int a2)] := hl
  have X : CX rLay rN D cA A p s m0 args meth c "BenchTowelsModel" cX12_isUnder 2 (some .boolean) := X
  have hx := X.1
  have hb := X.2.1
  have hml := X.2.2.1
  have hown := X.2.2.2.1
  have hts := X.2.2.2.2.1
  have hF := X.2.2.2.2.2.2.2.2.1
  rewrite [fX12_isUnder] at h
  refine lv_iload_n hx hb dX12_isUnder_0 rfl (lv_at hl 1 rfl) ?_
  refine lv_if_eq (tgt := 29) hx hb dX12_isUnder_1 (by decide) (fun c_1 => ?_) (fun c_1 => ?_)
  · have h := ifp c_1 h
    refine lv_iconst (v := 1) hx hb dX12_isUnder_29 (by decide) ?_
    refine lv_goto (tgt := 34) hx hb dX12_isUnder_30 (by decide) ?_
    exact r_zret X (Or.inr rfl) hP hS dX12_isUnder_34 h
  · have h := ifn c_1 h
    refine lv_iload_n hx hb dX12_isUnder_4 rfl (lv_at hl 0 rfl) ?_
    refine lv_iload_n hx hb dX12_isUnder_5 rfl (lv_at hl 1 rfl) ?_
    refine lv_icmp_eq (tgt := 29) hx hb dX12_isUnder_6 (by decide) (fun c_2 => ?_) (fun c_2 => ?_)
    · have h := ifp c_2 h
      refine lv_iconst (v := 1) hx hb dX12_isUnder_29 (by decide) ?_
      refine lv_goto (tgt := 34) hx hb dX12_isUnder_30 (by decide) ?_
      exact r_zret X (Or.inr rfl) hP hS dX12_isUnder_34 h
    · have h := ifn c_2 h
      refine lv_iload_n hx hb dX12_isUnder_9 rfl (lv_at hl 1 rfl) ?_
      refine lv_iconst (v := 2) hx hb dX12_isUnder_10 (by decide) ?_
      refine lv_icmp_ne (tgt := 19) hx hb dX12_isUnder_11 (by decide) (fun c_3 => ?_) (fun c_3 => ?_)
      · have h := ifn c_3 h
        exact tX12_isUnder_19 hI    X a1 a2 m _ _ _  h hP hS (lv_sub hl [0, 1] rfl)
      · have h := ifp c_3 h
        refine lv_iload_n hx hb dX12_isUnder_14 rfl (lv_at hl 0 rfl) ?_
        refine lv_iconst (v := 3) hx hb dX12_isUnder_15 (by decide) ?_
        refine lv_icmp_eq (tgt := 29) hx hb dX12_isUnder_16 (by decide) (fun c_6 => ?_) (fun c_6 => ?_)
        · have h := ifp c_6 h
          refine lv_iconst (v := 1) hx hb dX12_isUnder_29 (by decide) ?_
          refine lv_goto (tgt := 34) hx hb dX12_isUnder_30 (by decide) ?_
          exact r_zret X (Or.inr rfl) hP hS dX12_isUnder_34 h
        · have h := ifn c_6 h
          exact tX12_isUnder_19 hI    X a1 a2 m _ _ _  h hP hS (lv_sub hl [0, 1] rfl)

def fX12_valueOf (a1 : Int32) (a2 : Int32) (m : Mm) : Option (Int32 × Mm) := lt (a1 - 10000) fun x_1 => (if x_1 = 0 then some ((m 1 1), m) else (if x_1 = 1 then bd (fX12_its a2 (2 : Int32) m) fun r_5 m_6 => some (r_5, m_6) else (if x_1 = 2 then bd (fX12_its a2 (3 : Int32) m) fun r_9 m_10 => gx ((38 : Int32) + r_9) 553 (some ((m_10 1 (ix ((38 : Int32) + r_9))), m_10)) else (if x_1 = 3 then bd (fX12_its a2 (4 : Int32) m) fun r_14 m_15 => some (r_14, m_15) else (if x_1 = 4 then some (a2, m) else some (a1, m))))))
set_option maxHeartbeats 4000000 in
set_option maxRecDepth 100000 in
theorem tX12_valueOf {l : Launch} {D : va_G} {cA : Nat → ClassId} {A : Nat → Nat} (hI : InjA rN A) {a1 : Int32} {a2 : Int32} {m m' : Mm} {r : Int32} (h : fX12_valueOf a1 a2 m = some (r, m')) : Met0 l yX12_valueOf cX12_valueOf 3 (some .int) { frames := 1, cells := 0, slots := 0, locals := 22 } rLay rN D cA A [.ref (A 0), .int a1, .int a2] m (some (.int r)) m' := by
  refine met0_of (by decide) (Nat.le_of_ble_eq_true rfl) hI ?_
  intro p e s m0 below meth c ls X hinit hP hS hl
  generalize ([.ref (A 0), .int a1, .int a2] : List Value).toArray = args at X ⊢
  have hl : lv_has ls 3 [(0, .ref (A 0)), (1, .int a1), (2, .int a2)] := hl
  have X : CX rLay rN D cA A p s m0 args meth c "BenchTowelsModel" cX12_valueOf 3 (some .int) := X
  have hx := X.1
  have hb := X.2.1
  have hml := X.2.2.1
  have hown := X.2.2.2.1
  have hts := X.2.2.2.2.1
  have hF := X.2.2.2.2.2.2.2.2.1
  rewrite [fX12_valueOf] at h
  refine lv_iload_n hx hb dX12_valueOf_0 rfl (lv_at hl 1 rfl) ?_
  refine lv_sipush (v := 10000) hx hb dX12_valueOf_1 (by decide) ?_
  refine lv_isub hx hb dX12_valueOf_4 ?_
  obtain ⟨x_1, ex_2, h⟩ := lt_some h
  refine lv_ren ex_2 ?_
  by_cases c_3 : x_1 = 0
  · have h := ifp c_3 h
    refine lv_ren c_3.symm ?_
    refine lv_tableIn (tgt := 40) hx hb dX12_valueOf_5 (by decide) (by decide) rfl (by decide) ?_
    refine lv_aload_n hx hb dX12_valueOf_40 rfl (lv_at hl 0 rfl) ?_
    refine r_get kc_12 0 X hP (by decide) (L_ref _) (by decide) rfl wt_5_172 dX12_valueOf_41 ?_
    refine lv_iconst (v := 1) hx hb dX12_valueOf_44 (by decide) ?_
    refine r_iald X hP (by decide) (Lr_1 _) (vpc (by decide)) ixc_1 dX12_valueOf_45 ?_
    exact r_iret X hP hS dX12_valueOf_46 h
  have h := ifn c_3 h
  by_cases c_4 : x_1 = 1
  · have h := ifp c_4 h
    refine lv_ren c_4.symm ?_
    refine lv_tableIn (tgt := 47) hx hb dX12_valueOf_5 (by decide) (by decide) rfl (by decide) ?_
    refine lv_aload_n hx hb dX12_valueOf_47 rfl (lv_at hl 0 rfl) ?_
    refine lv_iload_n hx hb dX12_valueOf_48 rfl (lv_at hl 2 rfl) ?_
    refine lv_iconst (v := 2) hx hb dX12_valueOf_49 (by decide) ?_
    obtain ⟨r_5, m_6, hc_7, h⟩ := bd_some h
    refine c_V (rest := []) X hP hS (tX12_its hI  hc_7) (by decide) (L_ref _) rfl wt_6_76 wt_6_78 ws_2_10 wt_1_13 wt_6_79 ⟨rfl, hy_X12_its⟩ ⟨rfl, rfl⟩ ⟨Nat.le_of_ble_eq_true rfl, Nat.le_of_ble_eq_true rfl⟩ rfl hl.1 rfl (Nat.le_of_ble_eq_true rfl) dX12_valueOf_50 rfl (fun H locs hP hS => ?_)
    exact r_iret X hP hS dX12_valueOf_53 h
  have h := ifn c_4 h
  by_cases c_8 : x_1 = 2
  · have h := ifp c_8 h
    refine lv_ren c_8.symm ?_
    refine lv_tableIn (tgt := 54) hx hb dX12_valueOf_5 (by decide) (by decide) rfl (by decide) ?_
    refine lv_aload_n hx hb dX12_valueOf_54 rfl (lv_at hl 0 rfl) ?_
    refine r_get kc_12 0 X hP (by decide) (L_ref _) (by decide) rfl wt_5_172 dX12_valueOf_55 ?_
    refine lv_bipush (v := 38) hx hb dX12_valueOf_58 (by decide) ?_
    refine lv_aload_n hx hb dX12_valueOf_60 rfl (lv_at hl 0 rfl) ?_
    refine lv_iload_n hx hb dX12_valueOf_61 rfl (lv_at hl 2 rfl) ?_
    refine lv_iconst (v := 3) hx hb dX12_valueOf_62 (by decide) ?_
    obtain ⟨r_9, m_10, hc_11, h⟩ := bd_some h
    refine c_V (rest := [.int 38, .ref (A 1)]) X hP hS (tX12_its hI  hc_11) (by decide) (L_ref _) rfl wt_6_76 wt_6_78 ws_2_10 wt_1_13 wt_6_79 ⟨rfl, hy_X12_its⟩ ⟨rfl, rfl⟩ ⟨Nat.le_of_ble_eq_true rfl, Nat.le_of_ble_eq_true rfl⟩ rfl hl.1 rfl (Nat.le_of_ble_eq_true rfl) dX12_valueOf_63 rfl (fun H locs hP hS => ?_)
    refine lv_iadd hx hb dX12_valueOf_66 ?_
    obtain ⟨hin_12, h⟩ := gx_some h
    refine r_iald X hP (by decide) (Lr_1 _) hin_12 rfl dX12_valueOf_67 ?_
    exact r_iret X hP hS dX12_valueOf_68 h
  have h := ifn c_8 h
  by_cases c_13 : x_1 = 3
  · have h := ifp c_13 h
    refine lv_ren c_13.symm ?_
    refine lv_tableIn (tgt := 69) hx hb dX12_valueOf_5 (by decide) (by decide) rfl (by decide) ?_
    refine lv_aload_n hx hb dX12_valueOf_69 rfl (lv_at hl 0 rfl) ?_
    refine lv_iload_n hx hb dX12_valueOf_70 rfl (lv_at hl 2 rfl) ?_
    refine lv_iconst (v := 4) hx hb dX12_valueOf_71 (by decide) ?_
    obtain ⟨r_14, m_15, hc_16, h⟩ := bd_some h
    refine c_V (rest := []) X hP hS (tX12_its hI  hc_16) (by decide) (L_ref _) rfl wt_6_76 wt_6_78 ws_2_10 wt_1_13 wt_6_79 ⟨rfl, hy_X12_its⟩ ⟨rfl, rfl⟩ ⟨Nat.le_of_ble_eq_true rfl, Nat.le_of_ble_eq_true rfl⟩ rfl hl.1 rfl (Nat.le_of_ble_eq_true rfl) dX12_valueOf_72 rfl (fun H locs hP hS => ?_)
    exact r_iret X hP hS dX12_valueOf_75 h
  have h := ifn c_13 h
  by_cases c_17 : x_1 = 4
  · have h := ifp c_17 h
    refine lv_ren c_17.symm ?_
    refine lv_tableIn (tgt := 76) hx hb dX12_valueOf_5 (by decide) (by decide) rfl (by decide) ?_
    refine lv_iload_n hx hb dX12_valueOf_76 rfl (lv_at hl 2 rfl) ?_
    exact r_iret X hP hS dX12_valueOf_77 h
  have h := ifn c_17 h
  refine lv_tableOut (tgt := 78) hx hb dX12_valueOf_5 (by have q1000 : x_1.toInt ≠ 0 := fun q => c_3 (Int32.toInt_inj.mp (q.trans (by decide)));  have q1001 : x_1.toInt ≠ 1 := fun q => c_4 (Int32.toInt_inj.mp (q.trans (by decide)));  have q1002 : x_1.toInt ≠ 2 := fun q => c_8 (Int32.toInt_inj.mp (q.trans (by decide)));  have q1003 : x_1.toInt ≠ 3 := fun q => c_13 (Int32.toInt_inj.mp (q.trans (by decide)));  have q1004 : x_1.toInt ≠ 4 := fun q => c_17 (Int32.toInt_inj.mp (q.trans (by decide)));  omega) (by decide) ?_
  refine lv_iload_n hx hb dX12_valueOf_78 rfl (lv_at hl 1 rfl) ?_
  exact r_iret X hP hS dX12_valueOf_79 h

def fX12_holds_167 (K17 : Int32 → Int32 → Int64 → Int32 → Mm → Option (Int32 × Mm)) (x1 : Int32) (x2 : Int32) (x5 : Int32) (s0 : Int64) (s1 : Int64) (m : Mm) : Option (Int32 × Mm) := lt ((s1 + s0) : Int64) fun x3_44 => lt ((x5 : Int32) + 1) fun x5_46 => (K17 x1 x2 x3_44 x5_46 m)
set_option maxHeartbeats 4000000 in
set_option maxRecDepth 100000 in
theorem tX12_holds_167 (hI : InjA rN A)  {r : Int32} {m' : Mm} {K17 : Int32 → Int32 → Int64 → Int32 → Mm → Option (Int32 × Mm)} (hK17 : ∀ (x1 : Int32) (x2 : Int32) (x3 : Int64) (x5 : Int32) (m : Mm) (H : Heap) (locs : List Loc) (ls : Array Slot), K17 x1 x2 x3 x5 m = some (r, m') → va_P D vwCl (wsOf rLay rN cA A m) H → va_S (AW rN A) s.heap H locs → lv_has ls 10 [(0, .ref (A 0)), (1, .int x1), (2, .int x2), (3, .long x3), (5, .int x5)] → W p l e { frames := 2, cells := 0, slots := 0, locals := 44 } s m0 args below meth c H locs 0 0 (ZR below args s rLay rN D cA A (some (.int r)) m') (F0 m0 17 ls [])) (X : CX rLay rN D cA A p s m0 args meth c "BenchTowelsModel" cX12_holds 10 (some .boolean)) : ∀ (x1 : Int32) (x2 : Int32) (x5 : Int32) (s0 : Int64) (s1 : Int64) (m : Mm) (H : Heap) (locs : List Loc) (ls : Array Slot), fX12_holds_167 K17 x1 x2 x5 s0 s1 m = some (r, m') → va_P D vwCl (wsOf rLay rN cA A m) H → va_S (AW rN A) s.heap H locs → lv_has ls 10 [(0, .ref (A 0)), (1, .int x1), (2, .int x2), (5, .int x5)] → W p l e { frames := 2, cells := 0, slots := 0, locals := 44 } s m0 args below meth c H locs 0 0 (ZR below args s rLay rN D cA A (some (.int r)) m') (F0 m0 167 ls [.long s0, .long s1]) := by
  have hx := X.1
  have hb := X.2.1
  have hml := X.2.2.1
  have hown := X.2.2.2.1
  have hts := X.2.2.2.2.1
  have hF := X.2.2.2.2.2.2.2.2.1
  intro x1 x2 x5 s0 s1 m H locs ls h hP hS hl
  rewrite [fX12_holds_167] at h
  refine lv_ladd hx hb dX12_holds_167 ?_
  obtain ⟨x3_44, ex_45, h⟩ := lt_some h
  refine lv_renl ex_45 ?_
  refine lv_lstore_n (lv' := [(3, .long x3_44), (0, .ref (A 0)), (1, .int x1), (2, .int x2), (5, .int x5)]) hx hb dX12_holds_168 rfl hl (by decide) rfl (fun ls hl => ?_)
  refine lv_goto (tgt := 226) hx hb dX12_holds_169 (by decide) ?_
  obtain ⟨x5_46, ex_47, h⟩ := lt_some h
  refine lv_iinc (v := x5_46) (lv' := [(5, .int x5_46), (3, .long x3_44), (0, .ref (A 0)), (1, .int x1), (2, .int x2)]) hx hb dX12_holds_226 hl (k := 4) rfl (by rw [ex_47]; rfl) (by decide) rfl (fun ls hl => ?_)
  refine lv_goto (tgt := 17) hx hb dX12_holds_229 (by decide) ?_
  exact hK17 x1 x2 x3_44 x5_46 m _ _ _ h hP hS (lv_sub hl [2, 3, 4, 1, 0] rfl)

def fX12_holds_150 (K17 : Int32 → Int32 → Int64 → Int32 → Mm → Option (Int32 × Mm)) (x1 : Int32) (x2 : Int32) (x3 : Int64) (x5 : Int32) (s0 : Int32) (m : Mm) : Option (Int32 × Mm) := (if s0 = 0 then (fX12_holds_167 K17 x1 x2 x5 0 ((2 : Int64) * x3) m) else (fX12_holds_167 K17 x1 x2 x5 1 ((2 : Int64) * x3) m))
set_option maxHeartbeats 4000000 in
set_option maxRecDepth 100000 in
theorem tX12_holds_150 (hI : InjA rN A)  {r : Int32} {m' : Mm} {K17 : Int32 → Int32 → Int64 → Int32 → Mm → Option (Int32 × Mm)} (hK17 : ∀ (x1 : Int32) (x2 : Int32) (x3 : Int64) (x5 : Int32) (m : Mm) (H : Heap) (locs : List Loc) (ls : Array Slot), K17 x1 x2 x3 x5 m = some (r, m') → va_P D vwCl (wsOf rLay rN cA A m) H → va_S (AW rN A) s.heap H locs → lv_has ls 10 [(0, .ref (A 0)), (1, .int x1), (2, .int x2), (3, .long x3), (5, .int x5)] → W p l e { frames := 2, cells := 0, slots := 0, locals := 44 } s m0 args below meth c H locs 0 0 (ZR below args s rLay rN D cA A (some (.int r)) m') (F0 m0 17 ls [])) (X : CX rLay rN D cA A p s m0 args meth c "BenchTowelsModel" cX12_holds 10 (some .boolean)) : ∀ (x1 : Int32) (x2 : Int32) (x3 : Int64) (x5 : Int32) (s0 : Int32) (m : Mm) (H : Heap) (locs : List Loc) (ls : Array Slot), fX12_holds_150 K17 x1 x2 x3 x5 s0 m = some (r, m') → va_P D vwCl (wsOf rLay rN cA A m) H → va_S (AW rN A) s.heap H locs → lv_has ls 10 [(0, .ref (A 0)), (1, .int x1), (2, .int x2), (3, .long x3), (5, .int x5)] → W p l e { frames := 2, cells := 0, slots := 0, locals := 44 } s m0 args below meth c H locs 0 0 (ZR below args s rLay rN D cA A (some (.int r)) m') (F0 m0 150 ls [.int s0]) := by
  have hx := X.1
  have hb := X.2.1
  have hml := X.2.2.1
  have hown := X.2.2.2.1
  have hts := X.2.2.2.2.1
  have hF := X.2.2.2.2.2.2.2.2.1
  intro x1 x2 x3 x5 s0 m H locs ls h hP hS hl
  rewrite [fX12_holds_150] at h
  refine lv_istore (lv' := [(9, .int s0), (0, .ref (A 0)), (1, .int x1), (2, .int x2), (3, .long x3), (5, .int x5)]) hx hb dX12_holds_150 hl (by decide) rfl (fun ls hl => ?_)
  refine lv_ldc2 (v := 2) hx hb hown (hts _ wt_6_62) dX12_holds_152 ?_
  refine lv_lload_n hx hb dX12_holds_155 rfl (lv_at hl 4 rfl) ?_
  refine lv_lmul hx hb dX12_holds_156 ?_
  refine lv_iload hx hb dX12_holds_157 (lv_at hl 0 rfl) ?_
  refine lv_if_eq (tgt := 166) hx hb dX12_holds_159 (by decide) (fun c_43 => ?_) (fun c_43 => ?_)
  · have h := ifp c_43 h
    refine lv_lconst (v := 0) hx hb dX12_holds_166 (by decide) ?_
    exact tX12_holds_167 hI   hK17 X x1 x2 x5 0 ((2 : Int64) * x3) m _ _ _  h hP hS (lv_sub hl [1, 2, 3, 5] rfl)
  · have h := ifn c_43 h
    refine lv_lconst (v := 1) hx hb dX12_holds_162 (by decide) ?_
    refine lv_goto (tgt := 167) hx hb dX12_holds_163 (by decide) ?_
    exact tX12_holds_167 hI   hK17 X x1 x2 x5 1 ((2 : Int64) * x3) m _ _ _  h hP hS (lv_sub hl [1, 2, 3, 5] rfl)

def fX12_holds_17  : Nat → Int32 → Int32 → Int64 → Int32 → Mm → Option (Int32 × Mm)
  | 0, _, _, _, _, _ => none
  | n + 1, x1, x2, x3, x5, m => gx (((53 : Int32) + ((4 : Int32) * x1)) + 3) 553 ((if ((m 1 (ix (((53 : Int32) + ((4 : Int32) * x1)) + 3))) : Int32) ≤ x5 then (if (lg_cmp (x3 - x3 / 2 * 2) 1) = 0 then some (1, m) else some (0, m)) else gx ((103 : Int32) + ((3 : Int32) * x5)) 553 (lt (m 1 (ix ((103 : Int32) + ((3 : Int32) * x5)))) fun x6_8 => (if (3 : Int32) ≤ x6_8 then (if x6_8 = 3 then lt ((x3 ^^^ 1) : Int64) fun x3_28 => lt ((x5 : Int32) + 1) fun x5_30 => (fX12_holds_17 n x1 x2 x3_28 x5_30 m) else lt ((x3 &&& 1) : Int64) fun x7_12 => lt ((x3 / 2) : Int64) fun x3_14 => (if x6_8 = 4 then (if (lg_cmp x7_12 1) = 0 then lt ((x5 : Int32) + 1) fun x5_22 => (fX12_holds_17 n x1 x2 x3_14 x5_22 m) else lt ((x3_14 &&& (-2)) : Int64) fun x3_18 => lt ((x5 : Int32) + 1) fun x5_20 => (fX12_holds_17 n x1 x2 x3_18 x5_20 m)) else lt ((x3_14 ||| x7_12) : Int64) fun x3_24 => lt ((x5 : Int32) + 1) fun x5_26 => (fX12_holds_17 n x1 x2 x3_24 x5_26 m))) else gx (((103 : Int32) + ((3 : Int32) * x5)) + 1) 553 (bd (fX12_valueOf (m 1 (ix (((103 : Int32) + ((3 : Int32) * x5)) + 1))) x2 m) fun r_33 m_34 => gx (((103 : Int32) + ((3 : Int32) * x5)) + 2) 553 (bd (fX12_valueOf (m_34 1 (ix (((103 : Int32) + ((3 : Int32) * x5)) + 2))) x2 m_34) fun r_37 m_38 => (if x6_8 = 0 then (if (r_37 : Int32) ≤ r_33 then (fX12_holds_150 (fun x1 x2 x3 x5 m => fX12_holds_17 n x1 x2 x3 x5 m) x1 x2 x3 x5 0 m_38) else (fX12_holds_150 (fun x1 x2 x3 x5 m => fX12_holds_17 n x1 x2 x3 x5 m) x1 x2 x3 x5 1 m_38)) else (if x6_8 = 1 then (if r_33 = r_37 then (fX12_holds_150 (fun x1 x2 x3 x5 m => fX12_holds_17 n x1 x2 x3 x5 m) x1 x2 x3 x5 1 m_38) else (fX12_holds_150 (fun x1 x2 x3 x5 m => fX12_holds_17 n x1 x2 x3 x5 m) x1 x2 x3 x5 0 m_38)) else (if r_33 ≤ r_37 then (fX12_holds_150 (fun x1 x2 x3 x5 m => fX12_holds_17 n x1 x2 x3 x5 m) x1 x2 x3 x5 0 m_38) else (fX12_holds_150 (fun x1 x2 x3 x5 m => fX12_holds_17 n x1 x2 x3 x5 m) x1 x2 x3 x5 1 m_38))))))))))
set_option maxHeartbeats 4000000 in
set_option maxRecDepth 100000 in
theorem tX12_holds_17 (hI : InjA rN A)  {r : Int32} {m' : Mm} (X : CX rLay rN D cA A p s m0 args meth c "BenchTowelsModel" cX12_holds 10 (some .boolean)) : ∀ (n : Nat) (x1 : Int32) (x2 : Int32) (x3 : Int64) (x5 : Int32) (m : Mm) (H : Heap) (locs : List Loc) (ls : Array Slot), fX12_holds_17 n x1 x2 x3 x5 m = some (r, m') → va_P D vwCl (wsOf rLay rN cA A m) H → va_S (AW rN A) s.heap H locs → lv_has ls 10 [(0, .ref (A 0)), (1, .int x1), (2, .int x2), (3, .long x3), (5, .int x5)] → W p l e { frames := 2, cells := 0, slots := 0, locals := 44 } s m0 args below meth c H locs 0 0 (ZR below args s rLay rN D cA A (some (.int r)) m') (F0 m0 17 ls []) := by
  have hx := X.1
  have hb := X.2.1
  have hml := X.2.2.1
  have hown := X.2.2.2.1
  have hts := X.2.2.2.2.1
  have hF := X.2.2.2.2.2.2.2.2.1
  intro n
  induction n with
  | zero =>
    intro x1 x2 x3 x5 m H locs ls h hP hS hl
    exact absurd h (by rewrite [fX12_holds_17]; exact fun q => by cases q)
  | succ n ih =>
    intro x1 x2 x3 x5 m H locs ls h hP hS hl
    rewrite [fX12_holds_17] at h
    refine lv_iload hx hb dX12_holds_17 (lv_at hl 4 rfl) ?_
    refine lv_aload_n hx hb dX12_holds_19 rfl (lv_at hl 0 rfl) ?_
    refine r_get kc_12 0 X hP (by decide) (L_ref _) (by decide) rfl wt_5_172 dX12_holds_20 ?_
    refine lv_bipush (v := 53) hx hb dX12_holds_23 (by decide) ?_
    refine lv_iconst (v := 4) hx hb dX12_holds_25 (by decide) ?_
    refine lv_iload_n hx hb dX12_holds_26 rfl (lv_at hl 1 rfl) ?_
    refine lv_imul hx hb dX12_holds_27 ?_
    refine lv_iadd hx hb dX12_holds_28 ?_
    refine lv_iconst (v := 3) hx hb dX12_holds_29 (by decide) ?_
    refine lv_iadd hx hb dX12_holds_30 ?_
    obtain ⟨hin_4, h⟩ := gx_some h
    refine r_iald X hP (by decide) (Lr_1 _) hin_4 rfl dX12_holds_31 ?_
    refine lv_icmp_ge (tgt := 232) hx hb dX12_holds_32 (by decide) (fun c_5 => ?_) (fun c_5 => ?_)
    · have h := ifp c_5 h
      refine lv_lload_n hx hb dX12_holds_232 rfl (lv_at hl 3 rfl) ?_
      refine lv_ldc2 (v := 2) hx hb hown (hts _ wt_6_62) dX12_holds_233 ?_
      refine lv_lrem hx hb dX12_holds_236 (by decide) ?_
      refine lv_lconst (v := 1) hx hb dX12_holds_237 (by decide) ?_
      refine W.lcmp hx hb dX12_holds_238 ?_
      refine lv_if_ne (tgt := 246) hx hb dX12_holds_239 (by decide) (fun c_6 => ?_) (fun c_6 => ?_)
      · have h := ifn c_6 h
        refine lv_iconst (v := 0) hx hb dX12_holds_246 (by decide) ?_
        exact r_zret X (Or.inl rfl) hP hS dX12_holds_247 h
      · have h := ifp c_6 h
        refine lv_iconst (v := 1) hx hb dX12_holds_242 (by decide) ?_
        refine lv_goto (tgt := 247) hx hb dX12_holds_243 (by decide) ?_
        exact r_zret X (Or.inr rfl) hP hS dX12_holds_247 h
    · have h := ifn c_5 h
      refine lv_aload_n hx hb dX12_holds_35 rfl (lv_at hl 0 rfl) ?_
      refine r_get kc_12 0 X hP (by decide) (L_ref _) (by decide) rfl wt_5_172 dX12_holds_36 ?_
      refine lv_bipush (v := 103) hx hb dX12_holds_39 (by decide) ?_
      refine lv_iconst (v := 3) hx hb dX12_holds_41 (by decide) ?_
      refine lv_iload hx hb dX12_holds_42 (lv_at hl 4 rfl) ?_
      refine lv_imul hx hb dX12_holds_44 ?_
      refine lv_iadd hx hb dX12_holds_45 ?_
      obtain ⟨hin_7, h⟩ := gx_some h
      refine r_iald X hP (by decide) (Lr_1 _) hin_7 rfl dX12_holds_46 ?_
      obtain ⟨x6_8, ex_9, h⟩ := lt_some h
      refine lv_ren ex_9 ?_
      refine lv_istore (lv' := [(6, .int x6_8), (0, .ref (A 0)), (1, .int x1), (2, .int x2), (3, .long x3), (5, .int x5)]) hx hb dX12_holds_47 hl (by decide) rfl (fun ls hl => ?_)
      refine lv_iload hx hb dX12_holds_49 (lv_at hl 0 rfl) ?_
      refine lv_iconst (v := 3) hx hb dX12_holds_51 (by decide) ?_
      refine lv_icmp_ge (tgt := 172) hx hb dX12_holds_52 (by decide) (fun c_10 => ?_) (fun c_10 => ?_)
      · have h := ifp c_10 h
        refine lv_iload hx hb dX12_holds_172 (lv_at hl 0 rfl) ?_
        refine lv_iconst (v := 3) hx hb dX12_holds_174 (by decide) ?_
        refine lv_icmp_ne (tgt := 185) hx hb dX12_holds_175 (by decide) (fun c_11 => ?_) (fun c_11 => ?_)
        · have h := ifn c_11 h
          refine lv_lload_n hx hb dX12_holds_185 rfl (lv_at hl 4 rfl) ?_
          refine lv_lconst (v := 1) hx hb dX12_holds_186 (by decide) ?_
          refine lv_land hx hb dX12_holds_187 ?_
          obtain ⟨x7_12, ex_13, h⟩ := lt_some h
          refine lv_renl ex_13 ?_
          refine lv_lstore (lv' := [(7, .long x7_12), (6, .int x6_8), (0, .ref (A 0)), (1, .int x1), (2, .int x2), (3, .long x3), (5, .int x5)]) hx hb dX12_holds_188 hl (by decide) rfl (fun ls hl => ?_)
          refine lv_lload_n hx hb dX12_holds_190 rfl (lv_at hl 5 rfl) ?_
          refine lv_ldc2 (v := 2) hx hb hown (hts _ wt_6_62) dX12_holds_191 ?_
          refine lv_ldiv hx hb dX12_holds_194 (by decide) ?_
          obtain ⟨x3_14, ex_15, h⟩ := lt_some h
          refine lv_renl ex_15 ?_
          refine lv_lstore_n (lv' := [(3, .long x3_14), (7, .long x7_12), (6, .int x6_8), (0, .ref (A 0)), (1, .int x1), (2, .int x2), (5, .int x5)]) hx hb dX12_holds_195 rfl hl (by decide) rfl (fun ls hl => ?_)
          refine lv_iload hx hb dX12_holds_196 (lv_at hl 2 rfl) ?_
          refine lv_iconst (v := 4) hx hb dX12_holds_198 (by decide) ?_
          refine lv_icmp_eq (tgt := 209) hx hb dX12_holds_199 (by decide) (fun c_16 => ?_) (fun c_16 => ?_)
          · have h := ifp c_16 h
            refine lv_lload hx hb dX12_holds_209 (lv_at hl 1 rfl) ?_
            refine lv_lconst (v := 1) hx hb dX12_holds_211 (by decide) ?_
            refine W.lcmp hx hb dX12_holds_212 ?_
            refine lv_if_ne (tgt := 220) hx hb dX12_holds_213 (by decide) (fun c_17 => ?_) (fun c_17 => ?_)
            · have h := ifn c_17 h
              refine lv_lload_n hx hb dX12_holds_220 rfl (lv_at hl 0 rfl) ?_
              refine lv_ldc2 (v := (-2)) hx hb hown (hts _ wt_6_107) dX12_holds_221 ?_
              refine lv_land hx hb dX12_holds_224 ?_
              obtain ⟨x3_18, ex_19, h⟩ := lt_some h
              refine lv_renl ex_19 ?_
              refine lv_lstore_n (lv' := [(3, .long x3_18), (7, .long x7_12), (6, .int x6_8), (0, .ref (A 0)), (1, .int x1), (2, .int x2), (5, .int x5)]) hx hb dX12_holds_225 rfl hl (by decide) rfl (fun ls hl => ?_)
              obtain ⟨x5_20, ex_21, h⟩ := lt_some h
              refine lv_iinc (v := x5_20) (lv' := [(5, .int x5_20), (3, .long x3_18), (7, .long x7_12), (6, .int x6_8), (0, .ref (A 0)), (1, .int x1), (2, .int x2)]) hx hb dX12_holds_226 hl (k := 6) rfl (by rw [ex_21]; rfl) (by decide) rfl (fun ls hl => ?_)
              refine lv_goto (tgt := 17) hx hb dX12_holds_229 (by decide) ?_
              exact ih x1 x2 x3_18 x5_20 m _ _ _  h hP hS (lv_sub hl [4, 5, 6, 1, 0] rfl)
            · have h := ifp c_17 h
              refine lv_lload_n hx hb dX12_holds_216 rfl (lv_at hl 0 rfl) ?_
              refine lv_goto (tgt := 225) hx hb dX12_holds_217 (by decide) ?_
              refine lv_lstore_n (lv' := [(3, .long x3_14), (7, .long x7_12), (6, .int x6_8), (0, .ref (A 0)), (1, .int x1), (2, .int x2), (5, .int x5)]) hx hb dX12_holds_225 rfl hl (by decide) rfl (fun ls hl => ?_)
              obtain ⟨x5_22, ex_23, h⟩ := lt_some h
              refine lv_iinc (v := x5_22) (lv' := [(5, .int x5_22), (3, .long x3_14), (7, .long x7_12), (6, .int x6_8), (0, .ref (A 0)), (1, .int x1), (2, .int x2)]) hx hb dX12_holds_226 hl (k := 6) rfl (by rw [ex_23]; rfl) (by decide) rfl (fun ls hl => ?_)
              refine lv_goto (tgt := 17) hx hb dX12_holds_229 (by decide) ?_
              exact ih x1 x2 x3_14 x5_22 m _ _ _  h hP hS (lv_sub hl [4, 5, 6, 1, 0] rfl)
          · have h := ifn c_16 h
            refine lv_lload_n hx hb dX12_holds_202 rfl (lv_at hl 0 rfl) ?_
            refine lv_lload hx hb dX12_holds_203 (lv_at hl 1 rfl) ?_
            refine lv_lor hx hb dX12_holds_205 ?_
            refine lv_goto (tgt := 225) hx hb dX12_holds_206 (by decide) ?_
            obtain ⟨x3_24, ex_25, h⟩ := lt_some h
            refine lv_renl ex_25 ?_
            refine lv_lstore_n (lv' := [(3, .long x3_24), (7, .long x7_12), (6, .int x6_8), (0, .ref (A 0)), (1, .int x1), (2, .int x2), (5, .int x5)]) hx hb dX12_holds_225 rfl hl (by decide) rfl (fun ls hl => ?_)
            obtain ⟨x5_26, ex_27, h⟩ := lt_some h
            refine lv_iinc (v := x5_26) (lv' := [(5, .int x5_26), (3, .long x3_24), (7, .long x7_12), (6, .int x6_8), (0, .ref (A 0)), (1, .int x1), (2, .int x2)]) hx hb dX12_holds_226 hl (k := 6) rfl (by rw [ex_27]; rfl) (by decide) rfl (fun ls hl => ?_)
            refine lv_goto (tgt := 17) hx hb dX12_holds_229 (by decide) ?_
            exact ih x1 x2 x3_24 x5_26 m _ _ _  h hP hS (lv_sub hl [4, 5, 6, 1, 0] rfl)
        · have h := ifp c_11 h
          refine lv_lload_n hx hb dX12_holds_178 rfl (lv_at hl 4 rfl) ?_
          refine lv_lconst (v := 1) hx hb dX12_holds_179 (by decide) ?_
          refine lv_lxor hx hb dX12_holds_180 ?_
          obtain ⟨x3_28, ex_29, h⟩ := lt_some h
          refine lv_renl ex_29 ?_
          refine lv_lstore_n (lv' := [(3, .long x3_28), (6, .int x6_8), (0, .ref (A 0)), (1, .int x1), (2, .int x2), (5, .int x5)]) hx hb dX12_holds_181 rfl hl (by decide) rfl (fun ls hl => ?_)
          refine lv_goto (tgt := 226) hx hb dX12_holds_182 (by decide) ?_
          obtain ⟨x5_30, ex_31, h⟩ := lt_some h
          refine lv_iinc (v := x5_30) (lv' := [(5, .int x5_30), (3, .long x3_28), (6, .int x6_8), (0, .ref (A 0)), (1, .int x1), (2, .int x2)]) hx hb dX12_holds_226 hl (k := 5) rfl (by rw [ex_31]; rfl) (by decide) rfl (fun ls hl => ?_)
          refine lv_goto (tgt := 17) hx hb dX12_holds_229 (by decide) ?_
          exact ih x1 x2 x3_28 x5_30 m _ _ _  h hP hS (lv_sub hl [3, 4, 5, 1, 0] rfl)
      · have h := ifn c_10 h
        refine lv_aload_n hx hb dX12_holds_55 rfl (lv_at hl 1 rfl) ?_
        refine lv_aload_n hx hb dX12_holds_56 rfl (lv_at hl 1 rfl) ?_
        refine r_get kc_12 0 X hP (by decide) (L_ref _) (by decide) rfl wt_5_172 dX12_holds_57 ?_
        refine lv_bipush (v := 103) hx hb dX12_holds_60 (by decide) ?_
        refine lv_iconst (v := 3) hx hb dX12_holds_62 (by decide) ?_
        refine lv_iload hx hb dX12_holds_63 (lv_at hl 5 rfl) ?_
        refine lv_imul hx hb dX12_holds_65 ?_
        refine lv_iadd hx hb dX12_holds_66 ?_
        refine lv_iconst (v := 1) hx hb dX12_holds_67 (by decide) ?_
        refine lv_iadd hx hb dX12_holds_68 ?_
        obtain ⟨hin_32, h⟩ := gx_some h
        refine r_iald X hP (by decide) (Lr_1 _) hin_32 rfl dX12_holds_69 ?_
        refine lv_iload_n hx hb dX12_holds_70 rfl (lv_at hl 3 rfl) ?_
        obtain ⟨r_33, m_34, hc_35, h⟩ := bd_some h
        refine c_V (rest := []) X hP hS (tX12_valueOf hI  hc_35) (by decide) (L_ref _) rfl wt_6_103 wt_6_105 ws_3_0 wt_1_13 wt_6_106 ⟨rfl, hy_X12_valueOf⟩ ⟨rfl, rfl⟩ ⟨Nat.le_of_ble_eq_true rfl, Nat.le_of_ble_eq_true rfl⟩ rfl hl.1 rfl (Nat.le_of_ble_eq_true rfl) dX12_holds_71 rfl (fun H locs hP hS => ?_)
        refine lv_istore (lv' := [(7, .int r_33), (6, .int x6_8), (0, .ref (A 0)), (1, .int x1), (2, .int x2), (3, .long x3), (5, .int x5)]) hx hb dX12_holds_74 hl (by decide) rfl (fun ls hl => ?_)
        refine lv_aload_n hx hb dX12_holds_76 rfl (lv_at hl 2 rfl) ?_
        refine lv_aload_n hx hb dX12_holds_77 rfl (lv_at hl 2 rfl) ?_
        refine r_get kc_12 0 X hP (by decide) (L_ref _) (by decide) rfl wt_5_172 dX12_holds_78 ?_
        refine lv_bipush (v := 103) hx hb dX12_holds_81 (by decide) ?_
        refine lv_iconst (v := 3) hx hb dX12_holds_83 (by decide) ?_
        refine lv_iload hx hb dX12_holds_84 (lv_at hl 6 rfl) ?_
        refine lv_imul hx hb dX12_holds_86 ?_
        refine lv_iadd hx hb dX12_holds_87 ?_
        refine lv_iconst (v := 2) hx hb dX12_holds_88 (by decide) ?_
        refine lv_iadd hx hb dX12_holds_89 ?_
        obtain ⟨hin_36, h⟩ := gx_some h
        refine r_iald X hP (by decide) (Lr_1 _) hin_36 rfl dX12_holds_90 ?_
        refine lv_iload_n hx hb dX12_holds_91 rfl (lv_at hl 4 rfl) ?_
        obtain ⟨r_37, m_38, hc_39, h⟩ := bd_some h
        refine c_V (rest := []) X hP hS (tX12_valueOf hI  hc_39) (by decide) (L_ref _) rfl wt_6_103 wt_6_105 ws_3_0 wt_1_13 wt_6_106 ⟨rfl, hy_X12_valueOf⟩ ⟨rfl, rfl⟩ ⟨Nat.le_of_ble_eq_true rfl, Nat.le_of_ble_eq_true rfl⟩ rfl hl.1 rfl (Nat.le_of_ble_eq_true rfl) dX12_holds_92 rfl (fun H locs hP hS => ?_)
        refine lv_istore (lv' := [(8, .int r_37), (7, .int r_33), (6, .int x6_8), (0, .ref (A 0)), (1, .int x1), (2, .int x2), (3, .long x3), (5, .int x5)]) hx hb dX12_holds_95 hl (by decide) rfl (fun ls hl => ?_)
        refine lv_iload hx hb dX12_holds_97 (lv_at hl 2 rfl) ?_
        refine lv_if_ne (tgt := 117) hx hb dX12_holds_99 (by decide) (fun c_40 => ?_) (fun c_40 => ?_)
        · have h := ifn c_40 h
          refine lv_iload hx hb dX12_holds_117 (lv_at hl 2 rfl) ?_
          refine lv_iconst (v := 1) hx hb dX12_holds_119 (by decide) ?_
          refine lv_icmp_ne (tgt := 138) hx hb dX12_holds_120 (by decide) (fun c_41 => ?_) (fun c_41 => ?_)
          · have h := ifn c_41 h
            refine lv_iload hx hb dX12_holds_138 (lv_at hl 1 rfl) ?_
            refine lv_iload hx hb dX12_holds_140 (lv_at hl 0 rfl) ?_
            refine lv_icmp_le (tgt := 149) hx hb dX12_holds_142 (by decide) (fun c_42 => ?_) (fun c_42 => ?_)
            · have h := ifp c_42 h
              refine lv_iconst (v := 0) hx hb dX12_holds_149 (by decide) ?_
              exact tX12_holds_150 hI   (fun x1 x2 x3 x5 m H locs ls h hP hS hl => ih x1 x2 x3 x5 m H locs ls  h hP hS hl) X x1 x2 x3 x5 0 m_38 _ _ _  h hP hS (lv_sub hl [3, 4, 5, 6, 7] rfl)
            · have h := ifn c_42 h
              refine lv_iconst (v := 1) hx hb dX12_holds_145 (by decide) ?_
              refine lv_goto (tgt := 150) hx hb dX12_holds_146 (by decide) ?_
              exact tX12_holds_150 hI   (fun x1 x2 x3 x5 m H locs ls h hP hS hl => ih x1 x2 x3 x5 m H locs ls  h hP hS hl) X x1 x2 x3 x5 1 m_38 _ _ _  h hP hS (lv_sub hl [3, 4, 5, 6, 7] rfl)
          · have h := ifp c_41 h
            refine lv_iload hx hb dX12_holds_123 (lv_at hl 1 rfl) ?_
            refine lv_iload hx hb dX12_holds_125 (lv_at hl 0 rfl) ?_
            refine lv_icmp_ne (tgt := 134) hx hb dX12_holds_127 (by decide) (fun c_48 => ?_) (fun c_48 => ?_)
            · have h := ifn c_48 h
              refine lv_iconst (v := 0) hx hb dX12_holds_134 (by decide) ?_
              refine lv_goto (tgt := 150) hx hb dX12_holds_135 (by decide) ?_
              exact tX12_holds_150 hI   (fun x1 x2 x3 x5 m H locs ls h hP hS hl => ih x1 x2 x3 x5 m H locs ls  h hP hS hl) X x1 x2 x3 x5 0 m_38 _ _ _  h hP hS (lv_sub hl [3, 4, 5, 6, 7] rfl)
            · have h := ifp c_48 h
              refine lv_iconst (v := 1) hx hb dX12_holds_130 (by decide) ?_
              refine lv_goto (tgt := 150) hx hb dX12_holds_131 (by decide) ?_
              exact tX12_holds_150 hI   (fun x1 x2 x3 x5 m H locs ls h hP hS hl => ih x1 x2 x3 x5 m H locs ls  h hP hS hl) X x1 x2 x3 x5 1 m_38 _ _ _  h hP hS (lv_sub hl [3, 4, 5, 6, 7] rfl)
        · have h := ifp c_40 h
          refine lv_iload hx hb dX12_holds_102 (lv_at hl 1 rfl) ?_
          refine lv_iload hx hb dX12_holds_104 (lv_at hl 0 rfl) ?_
          refine lv_icmp_ge (tgt := 113) hx hb dX12_holds_106 (by decide) (fun c_49 => ?_) (fun c_49 => ?_)
          · have h := ifp c_49 h
            refine lv_iconst (v := 0) hx hb dX12_holds_113 (by decide) ?_
            refine lv_goto (tgt := 150) hx hb dX12_holds_114 (by decide) ?_
            exact tX12_holds_150 hI   (fun x1 x2 x3 x5 m H locs ls h hP hS hl => ih x1 x2 x3 x5 m H locs ls  h hP hS hl) X x1 x2 x3 x5 0 m_38 _ _ _  h hP hS (lv_sub hl [3, 4, 5, 6, 7] rfl)
          · have h := ifn c_49 h
            refine lv_iconst (v := 1) hx hb dX12_holds_109 (by decide) ?_
            refine lv_goto (tgt := 150) hx hb dX12_holds_110 (by decide) ?_
            exact tX12_holds_150 hI   (fun x1 x2 x3 x5 m H locs ls h hP hS hl => ih x1 x2 x3 x5 m H locs ls  h hP hS hl) X x1 x2 x3 x5 1 m_38 _ _ _  h hP hS (lv_sub hl [3, 4, 5, 6, 7] rfl)

def fX12_holds (a1 : Int32) (a2 : Int32) (m : Mm) : Option (Int32 × Mm) := gx (((53 : Int32) + ((4 : Int32) * a1)) + 2) 553 (lt (m 1 (ix (((53 : Int32) + ((4 : Int32) * a1)) + 2))) fun x5_2 => (fX12_holds_17  FL a1 a2 1 x5_2 m))
set_option maxHeartbeats 4000000 in
set_option maxRecDepth 100000 in
theorem tX12_holds {l : Launch} {D : va_G} {cA : Nat → ClassId} {A : Nat → Nat} (hI : InjA rN A) {a1 : Int32} {a2 : Int32} {m m' : Mm} {r : Int32} (h : fX12_holds a1 a2 m = some (r, m')) : Met0 l yX12_holds cX12_holds 10 (some .boolean) { frames := 2, cells := 0, slots := 0, locals := 44 } rLay rN D cA A [.ref (A 0), .int a1, .int a2] m (some (.int r)) m' := by
  refine met0_of (by decide) (Nat.le_of_ble_eq_true rfl) hI ?_
  intro p e s m0 below meth c ls X hinit hP hS hl
  generalize ([.ref (A 0), .int a1, .int a2] : List Value).toArray = args at X ⊢
  have hl : lv_has ls 10 [(0, .ref (A 0)), (1, .int a1), (2, .int a2)] := hl
  have X : CX rLay rN D cA A p s m0 args meth c "BenchTowelsModel" cX12_holds 10 (some .boolean) := X
  have hx := X.1
  have hb := X.2.1
  have hml := X.2.2.1
  have hown := X.2.2.2.1
  have hts := X.2.2.2.2.1
  have hF := X.2.2.2.2.2.2.2.2.1
  rewrite [fX12_holds] at h
  refine lv_lconst (v := 1) hx hb dX12_holds_0 (by decide) ?_
  refine lv_lstore_n (lv' := [(3, .long 1), (0, .ref (A 0)), (1, .int a1), (2, .int a2)]) hx hb dX12_holds_1 rfl hl (by decide) rfl (fun ls hl => ?_)
  refine lv_aload_n hx hb dX12_holds_2 rfl (lv_at hl 1 rfl) ?_
  refine r_get kc_12 0 X hP (by decide) (L_ref _) (by decide) rfl wt_5_172 dX12_holds_3 ?_
  refine lv_bipush (v := 53) hx hb dX12_holds_6 (by decide) ?_
  refine lv_iconst (v := 4) hx hb dX12_holds_8 (by decide) ?_
  refine lv_iload_n hx hb dX12_holds_9 rfl (lv_at hl 2 rfl) ?_
  refine lv_imul hx hb dX12_holds_10 ?_
  refine lv_iadd hx hb dX12_holds_11 ?_
  refine lv_iconst (v := 2) hx hb dX12_holds_12 (by decide) ?_
  refine lv_iadd hx hb dX12_holds_13 ?_
  obtain ⟨hin_1, h⟩ := gx_some h
  refine r_iald X hP (by decide) (Lr_1 _) hin_1 rfl dX12_holds_14 ?_
  obtain ⟨x5_2, ex_3, h⟩ := lt_some h
  refine lv_ren ex_3 ?_
  refine lv_istore (lv' := [(5, .int x5_2), (3, .long 1), (0, .ref (A 0)), (1, .int a1), (2, .int a2)]) hx hb dX12_holds_15 hl (by decide) rfl (fun ls hl => ?_)
  exact tX12_holds_17 hI    X FL a1 a2 1 x5_2 m _ _ _  h hP hS (lv_sub hl [2, 3, 4, 1, 0] rfl)

def fX12_will_2  : Nat → Int32 → Int32 → Mm → Option (Int32 × Mm)
  | 0, _, _, _ => none
  | n + 1, x1, x2, m => (if ((m 1 5) : Int32) ≤ x2 then some (0, m) else bd (fX12_its x1 (0 : Int32) m) fun r_2 m_3 => gx ((53 : Int32) + ((4 : Int32) * x2)) 553 (bd (fX12_isUnder r_2 (m_3 1 (ix ((53 : Int32) + ((4 : Int32) * x2)))) m_3) fun r_6 m_7 => (if r_6 = 0 then lt ((x2 : Int32) + 1) fun x2_10 => (fX12_will_2 n x1 x2_10 m_7) else bd (fX12_holds x2 x1 m_7) fun r_12 m_13 => (if r_12 = 0 then lt ((x2 : Int32) + 1) fun x2_16 => (fX12_will_2 n x1 x2_16 m_13) else gx (((53 : Int32) + ((4 : Int32) * x2)) + 1) 553 (some ((m_13 1 (ix (((53 : Int32) + ((4 : Int32) * x2)) + 1))), m_13))))))
set_option maxHeartbeats 4000000 in
set_option maxRecDepth 100000 in
theorem tX12_will_2 (hI : InjA rN A)  {r : Int32} {m' : Mm} (X : CX rLay rN D cA A p s m0 args meth c "BenchTowelsModel" cX12_will 3 (some .int)) : ∀ (n : Nat) (x1 : Int32) (x2 : Int32) (m : Mm) (H : Heap) (locs : List Loc) (ls : Array Slot), fX12_will_2 n x1 x2 m = some (r, m') → va_P D vwCl (wsOf rLay rN cA A m) H → va_S (AW rN A) s.heap H locs → lv_has ls 3 [(0, .ref (A 0)), (1, .int x1), (2, .int x2)] → W p l e { frames := 3, cells := 0, slots := 0, locals := 73 } s m0 args below meth c H locs 0 0 (ZR below args s rLay rN D cA A (some (.int r)) m') (F0 m0 2 ls []) := by
  have hx := X.1
  have hb := X.2.1
  have hml := X.2.2.1
  have hown := X.2.2.2.1
  have hts := X.2.2.2.2.1
  have hF := X.2.2.2.2.2.2.2.2.1
  intro n
  induction n with
  | zero =>
    intro x1 x2 m H locs ls h hP hS hl
    exact absurd h (by rewrite [fX12_will_2]; exact fun q => by cases q)
  | succ n ih =>
    intro x1 x2 m H locs ls h hP hS hl
    rewrite [fX12_will_2] at h
    refine lv_iload_n hx hb dX12_will_2 rfl (lv_at hl 2 rfl) ?_
    refine lv_aload_n hx hb dX12_will_3 rfl (lv_at hl 0 rfl) ?_
    refine r_get kc_12 0 X hP (by decide) (L_ref _) (by decide) rfl wt_5_172 dX12_will_4 ?_
    refine lv_iconst (v := 5) hx hb dX12_will_7 (by decide) ?_
    refine r_iald X hP (by decide) (Lr_1 _) (vpc (by decide)) ixc_5 dX12_will_8 ?_
    refine lv_icmp_ge (tgt := 64) hx hb dX12_will_9 (by decide) (fun c_1 => ?_) (fun c_1 => ?_)
    · have h := ifp c_1 h
      refine lv_iconst (v := 0) hx hb dX12_will_64 (by decide) ?_
      exact r_iret X hP hS dX12_will_65 h
    · have h := ifn c_1 h
      refine lv_aload_n hx hb dX12_will_12 rfl (lv_at hl 0 rfl) ?_
      refine lv_iload_n hx hb dX12_will_13 rfl (lv_at hl 1 rfl) ?_
      refine lv_iconst (v := 0) hx hb dX12_will_14 (by decide) ?_
      obtain ⟨r_2, m_3, hc_4, h⟩ := bd_some h
      refine c_V (rest := []) X hP hS (tX12_its hI  hc_4) (by decide) (L_ref _) rfl wt_6_76 wt_6_78 ws_2_10 wt_1_13 wt_6_79 ⟨rfl, hy_X12_its⟩ ⟨rfl, rfl⟩ ⟨Nat.le_of_ble_eq_true rfl, Nat.le_of_ble_eq_true rfl⟩ rfl hl.1 rfl (Nat.le_of_ble_eq_true rfl) dX12_will_15 rfl (fun H locs hP hS => ?_)
      refine lv_aload_n hx hb dX12_will_18 rfl (lv_at hl 0 rfl) ?_
      refine r_get kc_12 0 X hP (by decide) (L_ref _) (by decide) rfl wt_5_172 dX12_will_19 ?_
      refine lv_bipush (v := 53) hx hb dX12_will_22 (by decide) ?_
      refine lv_iconst (v := 4) hx hb dX12_will_24 (by decide) ?_
      refine lv_iload_n hx hb dX12_will_25 rfl (lv_at hl 2 rfl) ?_
      refine lv_imul hx hb dX12_will_26 ?_
      refine lv_iadd hx hb dX12_will_27 ?_
      obtain ⟨hin_5, h⟩ := gx_some h
      refine r_iald X hP (by decide) (Lr_1 _) hin_5 rfl dX12_will_28 ?_
      obtain ⟨r_6, m_7, hc_8, h⟩ := bd_some h
      refine c_S (rest := []) X hP hS (tX12_isUnder hI  hc_8) wt_6_96 wt_6_97 wt_1_13 wt_6_98 hy_X12_isUnder ⟨rfl, rfl⟩ ⟨Nat.le_of_ble_eq_true rfl, Nat.le_of_ble_eq_true rfl⟩ rfl hl.1 rfl (Nat.le_of_ble_eq_true rfl) dX12_will_29 rfl (fun H locs hP hS => ?_)
      refine lv_if_eq (tgt := 58) hx hb dX12_will_32 (by decide) (fun c_9 => ?_) (fun c_9 => ?_)
      · have h := ifp c_9 h
        obtain ⟨x2_10, ex_11, h⟩ := lt_some h
        refine lv_iinc (v := x2_10) (lv' := [(2, .int x2_10), (0, .ref (A 0)), (1, .int x1)]) hx hb dX12_will_58 hl (k := 2) rfl (by rw [ex_11]; rfl) (by decide) rfl (fun ls hl => ?_)
        refine lv_goto (tgt := 2) hx hb dX12_will_61 (by decide) ?_
        exact ih x1 x2_10 m_7 _ _ _  h hP hS (lv_sub hl [1, 2, 0] rfl)
      · have h := ifn c_9 h
        refine lv_aload_n hx hb dX12_will_35 rfl (lv_at hl 0 rfl) ?_
        refine lv_iload_n hx hb dX12_will_36 rfl (lv_at hl 2 rfl) ?_
        refine lv_iload_n hx hb dX12_will_37 rfl (lv_at hl 1 rfl) ?_
        obtain ⟨r_12, m_13, hc_14, h⟩ := bd_some h
        refine c_V (rest := []) X hP hS (tX12_holds hI  hc_14) (by decide) (L_ref _) rfl wt_6_99 wt_6_101 ws_2_15 wt_1_13 wt_6_102 ⟨rfl, hy_X12_holds⟩ ⟨rfl, rfl⟩ ⟨Nat.le_of_ble_eq_true rfl, Nat.le_of_ble_eq_true rfl⟩ rfl hl.1 rfl (Nat.le_of_ble_eq_true rfl) dX12_will_38 rfl (fun H locs hP hS => ?_)
        refine lv_if_eq (tgt := 58) hx hb dX12_will_41 (by decide) (fun c_15 => ?_) (fun c_15 => ?_)
        · have h := ifp c_15 h
          obtain ⟨x2_16, ex_17, h⟩ := lt_some h
          refine lv_iinc (v := x2_16) (lv' := [(2, .int x2_16), (0, .ref (A 0)), (1, .int x1)]) hx hb dX12_will_58 hl (k := 2) rfl (by rw [ex_17]; rfl) (by decide) rfl (fun ls hl => ?_)
          refine lv_goto (tgt := 2) hx hb dX12_will_61 (by decide) ?_
          exact ih x1 x2_16 m_13 _ _ _  h hP hS (lv_sub hl [1, 2, 0] rfl)
        · have h := ifn c_15 h
          refine lv_aload_n hx hb dX12_will_44 rfl (lv_at hl 0 rfl) ?_
          refine r_get kc_12 0 X hP (by decide) (L_ref _) (by decide) rfl wt_5_172 dX12_will_45 ?_
          refine lv_bipush (v := 53) hx hb dX12_will_48 (by decide) ?_
          refine lv_iconst (v := 4) hx hb dX12_will_50 (by decide) ?_
          refine lv_iload_n hx hb dX12_will_51 rfl (lv_at hl 2 rfl) ?_
          refine lv_imul hx hb dX12_will_52 ?_
          refine lv_iadd hx hb dX12_will_53 ?_
          refine lv_iconst (v := 1) hx hb dX12_will_54 (by decide) ?_
          refine lv_iadd hx hb dX12_will_55 ?_
          obtain ⟨hin_18, h⟩ := gx_some h
          refine r_iald X hP (by decide) (Lr_1 _) hin_18 rfl dX12_will_56 ?_
          exact r_iret X hP hS dX12_will_57 h

def fX12_will (a1 : Int32) (m : Mm) : Option (Int32 × Mm) := (fX12_will_2  FL a1 0 m)
set_option maxHeartbeats 4000000 in
set_option maxRecDepth 100000 in
theorem tX12_will {l : Launch} {D : va_G} {cA : Nat → ClassId} {A : Nat → Nat} (hI : InjA rN A) {a1 : Int32} {m m' : Mm} {r : Int32} (h : fX12_will a1 m = some (r, m')) : Met0 l yX12_will cX12_will 3 (some .int) { frames := 3, cells := 0, slots := 0, locals := 73 } rLay rN D cA A [.ref (A 0), .int a1] m (some (.int r)) m' := by
  refine met0_of (by decide) (Nat.le_of_ble_eq_true rfl) hI ?_
  intro p e s m0 below meth c ls X hinit hP hS hl
  generalize ([.ref (A 0), .int a1] : List Value).toArray = args at X ⊢
  have hl : lv_has ls 3 [(0, .ref (A 0)), (1, .int a1)] := hl
  have X : CX rLay rN D cA A p s m0 args meth c "BenchTowelsModel" cX12_will 3 (some .int) := X
  have hx := X.1
  have hb := X.2.1
  have hml := X.2.2.1
  have hown := X.2.2.2.1
  have hts := X.2.2.2.2.1
  have hF := X.2.2.2.2.2.2.2.2.1
  rewrite [fX12_will] at h
  refine lv_iconst (v := 0) hx hb dX12_will_0 (by decide) ?_
  refine lv_istore_n (lv' := [(2, .int 0), (0, .ref (A 0)), (1, .int a1)]) hx hb dX12_will_1 rfl hl (by decide) rfl (fun ls hl => ?_)
  exact tX12_will_2 hI    X FL a1 0 m _ _ _  h hP hS (lv_sub hl [1, 2, 0] rfl)

def fX12_setOf (a1 : Int32) (a2 : Int32) (m : Mm) : Option (Int32 × Mm) := bd (fX12_isOne a1 m) fun r_1 m_2 => (if r_1 = 0 then some ((-1), m_2) else bd (fX12_isIn (Int32.toInt64 a2) (0 : Int64) (8 : Int64) m_2) fun r_5 m_6 => (if r_5 = 0 then some ((-1), m_6) else (if a2 = 5 then bd (fX12_may a1 (m_6 1 1) m_6) fun r_10 m_11 => (if r_10 = 0 then some (0, m_11) else some (1, m_11)) else (if a2 = 6 then bd (fX12_gains a1 m_6) fun r_15 m_16 => some (r_15, m_16) else (if a2 = 7 then bd (fX12_tires a1 m_6) fun r_19 m_20 => some (r_19, m_20) else (if a2 = 8 then bd (fX12_will a1 m_6) fun r_23 m_24 => some (r_23, m_24) else bd (fX12_its a1 a2 m_6) fun r_26 m_27 => some (r_26, m_27)))))))
set_option maxHeartbeats 4000000 in
set_option maxRecDepth 100000 in
theorem tX12_setOf {l : Launch} {D : va_G} {cA : Nat → ClassId} {A : Nat → Nat} (hI : InjA rN A) {a1 : Int32} {a2 : Int32} {m m' : Mm} {r : Int32} (h : fX12_setOf a1 a2 m = some (r, m')) : Met0 l yX12_setOf cX12_setOf 3 (some .int) { frames := 4, cells := 0, slots := 0, locals := 95 } rLay rN D cA A [.ref (A 0), .int a1, .int a2] m (some (.int r)) m' := by
  refine met0_of (by decide) (Nat.le_of_ble_eq_true rfl) hI ?_
  intro p e s m0 below meth c ls X hinit hP hS hl
  generalize ([.ref (A 0), .int a1, .int a2] : List Value).toArray = args at X ⊢
  have hl : lv_has ls 3 [(0, .ref (A 0)), (1, .int a1), (2, .int a2)] := hl
  have X : CX rLay rN D cA A p s m0 args meth c "BenchTowelsModel" cX12_setOf 3 (some .int) := X
  have hx := X.1
  have hb := X.2.1
  have hml := X.2.2.1
  have hown := X.2.2.2.1
  have hts := X.2.2.2.2.1
  have hF := X.2.2.2.2.2.2.2.2.1
  rewrite [fX12_setOf] at h
  refine lv_aload_n hx hb dX12_setOf_0 rfl (lv_at hl 0 rfl) ?_
  refine lv_iload_n hx hb dX12_setOf_1 rfl (lv_at hl 1 rfl) ?_
  obtain ⟨r_1, m_2, hc_3, h⟩ := bd_some h
  refine c_V (rest := []) X hP hS (tX12_isOne hI  hc_3) (by decide) (L_ref _) rfl wt_6_67 wt_6_69 ws_2_8 wt_1_13 wt_6_70 ⟨rfl, hy_X12_isOne⟩ ⟨rfl, rfl⟩ ⟨Nat.le_of_ble_eq_true rfl, Nat.le_of_ble_eq_true rfl⟩ rfl hl.1 rfl (Nat.le_of_ble_eq_true rfl) dX12_setOf_2 rfl (fun H locs hP hS => ?_)
  refine lv_if_eq (tgt := 20) hx hb dX12_setOf_5 (by decide) (fun c_4 => ?_) (fun c_4 => ?_)
  · have h := ifp c_4 h
    refine lv_iconst (v := (-1)) hx hb dX12_setOf_20 (by decide) ?_
    exact r_iret X hP hS dX12_setOf_21 h
  · have h := ifn c_4 h
    refine lv_iload_n hx hb dX12_setOf_8 rfl (lv_at hl 2 rfl) ?_
    refine lv_i2l hx hb dX12_setOf_9 rfl ?_
    refine lv_lconst (v := 0) hx hb dX12_setOf_10 (by decide) ?_
    refine lv_ldc2 (v := 8) hx hb hown (hts _ wt_6_71) dX12_setOf_11 ?_
    obtain ⟨r_5, m_6, hc_7, h⟩ := bd_some h
    refine c_S (rest := []) X hP hS (tX12_isIn hI  hc_7) wt_6_55 wt_6_56 wt_1_13 wt_6_57 hy_X12_isIn ⟨rfl, rfl⟩ ⟨Nat.le_of_ble_eq_true rfl, Nat.le_of_ble_eq_true rfl⟩ rfl hl.1 rfl (Nat.le_of_ble_eq_true rfl) dX12_setOf_14 rfl (fun H locs hP hS => ?_)
    refine lv_if_ne (tgt := 22) hx hb dX12_setOf_17 (by decide) (fun c_8 => ?_) (fun c_8 => ?_)
    · have h := ifn c_8 h
      refine lv_iload_n hx hb dX12_setOf_22 rfl (lv_at hl 2 rfl) ?_
      by_cases c_9 : a2 = 5
      · have h := ifp c_9 h
        refine lv_ren c_9.symm ?_
        refine lv_tableIn (tgt := 52) hx hb dX12_setOf_23 (by decide) (by decide) rfl (by decide) ?_
        refine lv_aload_n hx hb dX12_setOf_52 rfl (lv_at hl 0 rfl) ?_
        refine lv_iload_n hx hb dX12_setOf_53 rfl (lv_at hl 1 rfl) ?_
        refine lv_aload_n hx hb dX12_setOf_54 rfl (lv_at hl 0 rfl) ?_
        refine r_get kc_12 0 X hP (by decide) (L_ref _) (by decide) rfl wt_5_172 dX12_setOf_55 ?_
        refine lv_iconst (v := 1) hx hb dX12_setOf_58 (by decide) ?_
        refine r_iald X hP (by decide) (Lr_1 _) (vpc (by decide)) ixc_1 dX12_setOf_59 ?_
        obtain ⟨r_10, m_11, hc_12, h⟩ := bd_some h
        refine c_V (rest := []) X hP hS (tX12_may hI  hc_12) (by decide) (L_ref _) rfl wt_6_72 wt_6_74 ws_2_9 wt_1_13 wt_6_75 ⟨rfl, hy_X12_may⟩ ⟨rfl, rfl⟩ ⟨Nat.le_of_ble_eq_true rfl, Nat.le_of_ble_eq_true rfl⟩ rfl hl.1 rfl (Nat.le_of_ble_eq_true rfl) dX12_setOf_60 rfl (fun H locs hP hS => ?_)
        refine lv_if_eq (tgt := 70) hx hb dX12_setOf_63 (by decide) (fun c_13 => ?_) (fun c_13 => ?_)
        · have h := ifp c_13 h
          refine lv_iconst (v := 0) hx hb dX12_setOf_70 (by decide) ?_
          exact r_iret X hP hS dX12_setOf_71 h
        · have h := ifn c_13 h
          refine lv_iconst (v := 1) hx hb dX12_setOf_66 (by decide) ?_
          refine lv_goto (tgt := 71) hx hb dX12_setOf_67 (by decide) ?_
          exact r_iret X hP hS dX12_setOf_71 h
      have h := ifn c_9 h
      by_cases c_14 : a2 = 6
      · have h := ifp c_14 h
        refine lv_ren c_14.symm ?_
        refine lv_tableIn (tgt := 72) hx hb dX12_setOf_23 (by decide) (by decide) rfl (by decide) ?_
        refine lv_aload_n hx hb dX12_setOf_72 rfl (lv_at hl 0 rfl) ?_
        refine lv_iload_n hx hb dX12_setOf_73 rfl (lv_at hl 1 rfl) ?_
        obtain ⟨r_15, m_16, hc_17, h⟩ := bd_some h
        refine c_V (rest := []) X hP hS (tX12_gains hI  hc_17) (by decide) (L_ref _) rfl wt_6_84 wt_6_86 ws_2_12 wt_1_13 wt_6_87 ⟨rfl, hy_X12_gains⟩ ⟨rfl, rfl⟩ ⟨Nat.le_of_ble_eq_true rfl, Nat.le_of_ble_eq_true rfl⟩ rfl hl.1 rfl (Nat.le_of_ble_eq_true rfl) dX12_setOf_74 rfl (fun H locs hP hS => ?_)
        exact r_iret X hP hS dX12_setOf_77 h
      have h := ifn c_14 h
      by_cases c_18 : a2 = 7
      · have h := ifp c_18 h
        refine lv_ren c_18.symm ?_
        refine lv_tableIn (tgt := 78) hx hb dX12_setOf_23 (by decide) (by decide) rfl (by decide) ?_
        refine lv_aload_n hx hb dX12_setOf_78 rfl (lv_at hl 0 rfl) ?_
        refine lv_iload_n hx hb dX12_setOf_79 rfl (lv_at hl 1 rfl) ?_
        obtain ⟨r_19, m_20, hc_21, h⟩ := bd_some h
        refine c_V (rest := []) X hP hS (tX12_tires hI  hc_21) (by decide) (L_ref _) rfl wt_6_88 wt_6_90 ws_2_13 wt_1_13 wt_6_91 ⟨rfl, hy_X12_tires⟩ ⟨rfl, rfl⟩ ⟨Nat.le_of_ble_eq_true rfl, Nat.le_of_ble_eq_true rfl⟩ rfl hl.1 rfl (Nat.le_of_ble_eq_true rfl) dX12_setOf_80 rfl (fun H locs hP hS => ?_)
        exact r_iret X hP hS dX12_setOf_83 h
      have h := ifn c_18 h
      by_cases c_22 : a2 = 8
      · have h := ifp c_22 h
        refine lv_ren c_22.symm ?_
        refine lv_tableIn (tgt := 84) hx hb dX12_setOf_23 (by decide) (by decide) rfl (by decide) ?_
        refine lv_aload_n hx hb dX12_setOf_84 rfl (lv_at hl 0 rfl) ?_
        refine lv_iload_n hx hb dX12_setOf_85 rfl (lv_at hl 1 rfl) ?_
        obtain ⟨r_23, m_24, hc_25, h⟩ := bd_some h
        refine c_V (rest := []) X hP hS (tX12_will hI  hc_25) (by decide) (L_ref _) rfl wt_6_92 wt_6_94 ws_2_14 wt_1_13 wt_6_95 ⟨rfl, hy_X12_will⟩ ⟨rfl, rfl⟩ ⟨Nat.le_of_ble_eq_true rfl, Nat.le_of_ble_eq_true rfl⟩ rfl hl.1 rfl (Nat.le_of_ble_eq_true rfl) dX12_setOf_86 rfl (fun H locs hP hS => ?_)
        exact r_iret X hP hS dX12_setOf_89 h
      have h := ifn c_22 h
      refine lv_tableOut (tgt := 90) hx hb dX12_setOf_23 (by have q1005 : a2.toInt ≠ 5 := fun q => c_9 (Int32.toInt_inj.mp (q.trans (by decide)));  have q1006 : a2.toInt ≠ 6 := fun q => c_14 (Int32.toInt_inj.mp (q.trans (by decide)));  have q1007 : a2.toInt ≠ 7 := fun q => c_18 (Int32.toInt_inj.mp (q.trans (by decide)));  have q1008 : a2.toInt ≠ 8 := fun q => c_22 (Int32.toInt_inj.mp (q.trans (by decide)));  omega) (by decide) ?_
      refine lv_aload_n hx hb dX12_setOf_90 rfl (lv_at hl 0 rfl) ?_
      refine lv_iload_n hx hb dX12_setOf_91 rfl (lv_at hl 1 rfl) ?_
      refine lv_iload_n hx hb dX12_setOf_92 rfl (lv_at hl 2 rfl) ?_
      obtain ⟨r_26, m_27, hc_28, h⟩ := bd_some h
      refine c_V (rest := []) X hP hS (tX12_its hI  hc_28) (by decide) (L_ref _) rfl wt_6_76 wt_6_78 ws_2_10 wt_1_13 wt_6_79 ⟨rfl, hy_X12_its⟩ ⟨rfl, rfl⟩ ⟨Nat.le_of_ble_eq_true rfl, Nat.le_of_ble_eq_true rfl⟩ rfl hl.1 rfl (Nat.le_of_ble_eq_true rfl) dX12_setOf_93 rfl (fun H locs hP hS => ?_)
      exact r_iret X hP hS dX12_setOf_96 h
    · have h := ifp c_8 h
      refine lv_iconst (v := (-1)) hx hb dX12_setOf_20 (by decide) ?_
      exact r_iret X hP hS dX12_setOf_21 h

def fX12_change_68  (x1 : Int32) (x2 : Int32) (x3 : Int32) (s0 : Int32) (m : Mm) : Option (Int32 × Mm) := (if s0 = 0 then some ((-1), m) else bd (fX12_becomes (((8 : Int32) + ((5 : Int32) * x1)) + x2) x3 m) fun r_6 m_7 => some (r_6, m_7))
set_option maxHeartbeats 4000000 in
set_option maxRecDepth 100000 in
theorem tX12_change_68 (hI : InjA rN A)  {r : Int32} {m' : Mm} (X : CX rLay rN D cA A p s m0 args meth c "BenchTowelsModel" cX12_change 5 (some .int)) : ∀ (x1 : Int32) (x2 : Int32) (x3 : Int32) (s0 : Int32) (m : Mm) (H : Heap) (locs : List Loc) (ls : Array Slot), fX12_change_68 x1 x2 x3 s0 m = some (r, m') → va_P D vwCl (wsOf rLay rN cA A m) H → va_S (AW rN A) s.heap H locs → lv_has ls 5 [(0, .ref (A 0)), (1, .int x1), (2, .int x2), (3, .int x3)] → W p l e { frames := 1, cells := 0, slots := 0, locals := 25 } s m0 args below meth c H locs 0 0 (ZR below args s rLay rN D cA A (some (.int r)) m') (F0 m0 68 ls [.int s0]) := by
  have hx := X.1
  have hb := X.2.1
  have hml := X.2.2.1
  have hown := X.2.2.2.1
  have hts := X.2.2.2.2.1
  have hF := X.2.2.2.2.2.2.2.2.1
  intro x1 x2 x3 s0 m H locs ls h hP hS hl
  rewrite [fX12_change_68] at h
  refine lv_istore (lv' := [(4, .int s0), (0, .ref (A 0)), (1, .int x1), (2, .int x2), (3, .int x3)]) hx hb dX12_change_68 hl (by decide) rfl (fun ls hl => ?_)
  refine lv_iload hx hb dX12_change_70 (lv_at hl 0 rfl) ?_
  refine lv_if_eq (tgt := 91) hx hb dX12_change_72 (by decide) (fun c_5 => ?_) (fun c_5 => ?_)
  · have h := ifp c_5 h
    refine lv_iconst (v := (-1)) hx hb dX12_change_91 (by decide) ?_
    exact r_iret X hP hS dX12_change_92 h
  · have h := ifn c_5 h
    refine lv_aload_n hx hb dX12_change_75 rfl (lv_at hl 1 rfl) ?_
    refine lv_bipush (v := 8) hx hb dX12_change_76 (by decide) ?_
    refine lv_iconst (v := 5) hx hb dX12_change_78 (by decide) ?_
    refine lv_iload_n hx hb dX12_change_79 rfl (lv_at hl 2 rfl) ?_
    refine lv_imul hx hb dX12_change_80 ?_
    refine lv_iadd hx hb dX12_change_81 ?_
    refine lv_iload_n hx hb dX12_change_82 rfl (lv_at hl 3 rfl) ?_
    refine lv_iadd hx hb dX12_change_83 ?_
    refine lv_iload_n hx hb dX12_change_84 rfl (lv_at hl 4 rfl) ?_
    obtain ⟨r_6, m_7, hc_8, h⟩ := bd_some h
    refine c_V (rest := []) X hP hS (tX12_becomes hI  hc_8) (by decide) (L_ref _) rfl wt_6_113 wt_6_115 ws_3_1 wt_1_13 wt_6_116 ⟨rfl, hy_X12_becomes⟩ ⟨rfl, rfl⟩ ⟨Nat.le_of_ble_eq_true rfl, Nat.le_of_ble_eq_true rfl⟩ rfl hl.1 rfl (Nat.le_of_ble_eq_true rfl) dX12_change_85 rfl (fun H locs hP hS => ?_)
    refine lv_goto (tgt := 92) hx hb dX12_change_88 (by decide) ?_
    exact r_iret X hP hS dX12_change_92 h

def fX12_change_57  (x1 : Int32) (x2 : Int32) (x3 : Int32) (s0 : Int64) (s1 : Int64) (s2 : Int64) (m : Mm) : Option (Int32 × Mm) := bd (fX12_isIn s2 s1 s0 m) fun r_16 m_17 => (if r_16 = 0 then (fX12_change_68  x1 x2 x3 0 m_17) else (fX12_change_68  x1 x2 x3 1 m_17))
set_option maxHeartbeats 4000000 in
set_option maxRecDepth 100000 in
theorem tX12_change_57 (hI : InjA rN A)  {r : Int32} {m' : Mm} (X : CX rLay rN D cA A p s m0 args meth c "BenchTowelsModel" cX12_change 5 (some .int)) : ∀ (x1 : Int32) (x2 : Int32) (x3 : Int32) (s0 : Int64) (s1 : Int64) (s2 : Int64) (m : Mm) (H : Heap) (locs : List Loc) (ls : Array Slot), fX12_change_57 x1 x2 x3 s0 s1 s2 m = some (r, m') → va_P D vwCl (wsOf rLay rN cA A m) H → va_S (AW rN A) s.heap H locs → lv_has ls 5 [(0, .ref (A 0)), (1, .int x1), (2, .int x2), (3, .int x3)] → W p l e { frames := 1, cells := 0, slots := 0, locals := 25 } s m0 args below meth c H locs 0 0 (ZR below args s rLay rN D cA A (some (.int r)) m') (F0 m0 57 ls [.long s0, .long s1, .long s2]) := by
  have hx := X.1
  have hb := X.2.1
  have hml := X.2.2.1
  have hown := X.2.2.2.1
  have hts := X.2.2.2.2.1
  have hF := X.2.2.2.2.2.2.2.2.1
  intro x1 x2 x3 s0 s1 s2 m H locs ls h hP hS hl
  rewrite [fX12_change_57] at h
  obtain ⟨r_16, m_17, hc_18, h⟩ := bd_some h
  refine c_S (rest := []) X hP hS (tX12_isIn hI  hc_18) wt_6_55 wt_6_56 wt_1_13 wt_6_57 hy_X12_isIn ⟨rfl, rfl⟩ ⟨Nat.le_of_ble_eq_true rfl, Nat.le_of_ble_eq_true rfl⟩ rfl hl.1 rfl (Nat.le_of_ble_eq_true rfl) dX12_change_57 rfl (fun H locs hP hS => ?_)
  refine lv_if_eq (tgt := 67) hx hb dX12_change_60 (by decide) (fun c_19 => ?_) (fun c_19 => ?_)
  · have h := ifp c_19 h
    refine lv_iconst (v := 0) hx hb dX12_change_67 (by decide) ?_
    exact tX12_change_68 hI    X x1 x2 x3 0 m_17 _ _ _  h hP hS (lv_sub hl [0, 1, 2, 3] rfl)
  · have h := ifn c_19 h
    refine lv_iconst (v := 1) hx hb dX12_change_63 (by decide) ?_
    refine lv_goto (tgt := 68) hx hb dX12_change_64 (by decide) ?_
    exact tX12_change_68 hI    X x1 x2 x3 1 m_17 _ _ _  h hP hS (lv_sub hl [0, 1, 2, 3] rfl)

def fX12_change_32  (x1 : Int32) (x2 : Int32) (x3 : Int32) (s0 : Int64) (s1 : Int64) (m : Mm) : Option (Int32 × Mm) := (if x2 = 1 then (fX12_change_57  x1 x2 x3 5 s0 s1 m) else (if x2 = 3 then (fX12_change_57  x1 x2 x3 2 s0 s1 m) else (fX12_change_57  x1 x2 x3 9 s0 s1 m)))
set_option maxHeartbeats 4000000 in
set_option maxRecDepth 100000 in
theorem tX12_change_32 (hI : InjA rN A)  {r : Int32} {m' : Mm} (X : CX rLay rN D cA A p s m0 args meth c "BenchTowelsModel" cX12_change 5 (some .int)) : ∀ (x1 : Int32) (x2 : Int32) (x3 : Int32) (s0 : Int64) (s1 : Int64) (m : Mm) (H : Heap) (locs : List Loc) (ls : Array Slot), fX12_change_32 x1 x2 x3 s0 s1 m = some (r, m') → va_P D vwCl (wsOf rLay rN cA A m) H → va_S (AW rN A) s.heap H locs → lv_has ls 5 [(0, .ref (A 0)), (1, .int x1), (2, .int x2), (3, .int x3)] → W p l e { frames := 1, cells := 0, slots := 0, locals := 25 } s m0 args below meth c H locs 0 0 (ZR below args s rLay rN D cA A (some (.int r)) m') (F0 m0 32 ls [.long s0, .long s1]) := by
  have hx := X.1
  have hb := X.2.1
  have hml := X.2.2.1
  have hown := X.2.2.2.1
  have hts := X.2.2.2.2.1
  have hF := X.2.2.2.2.2.2.2.2.1
  intro x1 x2 x3 s0 s1 m H locs ls h hP hS hl
  rewrite [fX12_change_32] at h
  refine lv_iload_n hx hb dX12_change_32 rfl (lv_at hl 2 rfl) ?_
  refine lv_iconst (v := 1) hx hb dX12_change_33 (by decide) ?_
  refine lv_icmp_ne (tgt := 43) hx hb dX12_change_34 (by decide) (fun c_14 => ?_) (fun c_14 => ?_)
  · have h := ifn c_14 h
    refine lv_iload_n hx hb dX12_change_43 rfl (lv_at hl 2 rfl) ?_
    refine lv_iconst (v := 3) hx hb dX12_change_44 (by decide) ?_
    refine lv_icmp_ne (tgt := 54) hx hb dX12_change_45 (by decide) (fun c_15 => ?_) (fun c_15 => ?_)
    · have h := ifn c_15 h
      refine lv_ldc2 (v := 9) hx hb hown (hts _ wt_6_61) dX12_change_54 ?_
      exact tX12_change_57 hI    X x1 x2 x3 9 s0 s1 m _ _ _  h hP hS (lv_sub hl [0, 1, 2, 3] rfl)
    · have h := ifp c_15 h
      refine lv_ldc2 (v := 2) hx hb hown (hts _ wt_6_62) dX12_change_48 ?_
      refine lv_goto (tgt := 57) hx hb dX12_change_51 (by decide) ?_
      exact tX12_change_57 hI    X x1 x2 x3 2 s0 s1 m _ _ _  h hP hS (lv_sub hl [0, 1, 2, 3] rfl)
  · have h := ifp c_14 h
    refine lv_ldc2 (v := 5) hx hb hown (hts _ wt_6_54) dX12_change_37 ?_
    refine lv_goto (tgt := 57) hx hb dX12_change_40 (by decide) ?_
    exact tX12_change_57 hI    X x1 x2 x3 5 s0 s1 m _ _ _  h hP hS (lv_sub hl [0, 1, 2, 3] rfl)

def fX12_change (a1 : Int32) (a2 : Int32) (a3 : Int32) (m : Mm) : Option (Int32 × Mm) := bd (fX12_isOne a1 m) fun r_1 m_2 => (if r_1 = 0 then (fX12_change_68  a1 a2 a3 0 m_2) else bd (fX12_isIn (Int32.toInt64 a2) (1 : Int64) (4 : Int64) m_2) fun r_9 m_10 => (if r_9 = 0 then (fX12_change_68  a1 a2 a3 0 m_10) else (if a2 = 2 then (fX12_change_32  a1 a2 a3 1 (Int32.toInt64 a3) m_10) else (fX12_change_32  a1 a2 a3 0 (Int32.toInt64 a3) m_10))))
set_option maxHeartbeats 4000000 in
set_option maxRecDepth 100000 in
theorem tX12_change {l : Launch} {D : va_G} {cA : Nat → ClassId} {A : Nat → Nat} (hI : InjA rN A) {a1 : Int32} {a2 : Int32} {a3 : Int32} {m m' : Mm} {r : Int32} (h : fX12_change a1 a2 a3 m = some (r, m')) : Met0 l yX12_change cX12_change 5 (some .int) { frames := 1, cells := 0, slots := 0, locals := 25 } rLay rN D cA A [.ref (A 0), .int a1, .int a2, .int a3] m (some (.int r)) m' := by
  refine met0_of (by decide) (Nat.le_of_ble_eq_true rfl) hI ?_
  intro p e s m0 below meth c ls X hinit hP hS hl
  generalize ([.ref (A 0), .int a1, .int a2, .int a3] : List Value).toArray = args at X ⊢
  have hl : lv_has ls 5 [(0, .ref (A 0)), (1, .int a1), (2, .int a2), (3, .int a3)] := hl
  have X : CX rLay rN D cA A p s m0 args meth c "BenchTowelsModel" cX12_change 5 (some .int) := X
  have hx := X.1
  have hb := X.2.1
  have hml := X.2.2.1
  have hown := X.2.2.2.1
  have hts := X.2.2.2.2.1
  have hF := X.2.2.2.2.2.2.2.2.1
  rewrite [fX12_change] at h
  refine lv_aload_n hx hb dX12_change_0 rfl (lv_at hl 0 rfl) ?_
  refine lv_iload_n hx hb dX12_change_1 rfl (lv_at hl 1 rfl) ?_
  obtain ⟨r_1, m_2, hc_3, h⟩ := bd_some h
  refine c_V (rest := []) X hP hS (tX12_isOne hI  hc_3) (by decide) (L_ref _) rfl wt_6_67 wt_6_69 ws_2_8 wt_1_13 wt_6_70 ⟨rfl, hy_X12_isOne⟩ ⟨rfl, rfl⟩ ⟨Nat.le_of_ble_eq_true rfl, Nat.le_of_ble_eq_true rfl⟩ rfl hl.1 rfl (Nat.le_of_ble_eq_true rfl) dX12_change_2 rfl (fun H locs hP hS => ?_)
  refine lv_if_eq (tgt := 67) hx hb dX12_change_5 (by decide) (fun c_4 => ?_) (fun c_4 => ?_)
  · have h := ifp c_4 h
    refine lv_iconst (v := 0) hx hb dX12_change_67 (by decide) ?_
    exact tX12_change_68 hI    X a1 a2 a3 0 m_2 _ _ _  h hP hS (lv_sub hl [0, 1, 2, 3] rfl)
  · have h := ifn c_4 h
    refine lv_iload_n hx hb dX12_change_8 rfl (lv_at hl 2 rfl) ?_
    refine lv_i2l hx hb dX12_change_9 rfl ?_
    refine lv_lconst (v := 1) hx hb dX12_change_10 (by decide) ?_
    refine lv_ldc2 (v := 4) hx hb hown (hts _ wt_6_112) dX12_change_11 ?_
    obtain ⟨r_9, m_10, hc_11, h⟩ := bd_some h
    refine c_S (rest := []) X hP hS (tX12_isIn hI  hc_11) wt_6_55 wt_6_56 wt_1_13 wt_6_57 hy_X12_isIn ⟨rfl, rfl⟩ ⟨Nat.le_of_ble_eq_true rfl, Nat.le_of_ble_eq_true rfl⟩ rfl hl.1 rfl (Nat.le_of_ble_eq_true rfl) dX12_change_14 rfl (fun H locs hP hS => ?_)
    refine lv_if_eq (tgt := 67) hx hb dX12_change_17 (by decide) (fun c_12 => ?_) (fun c_12 => ?_)
    · have h := ifp c_12 h
      refine lv_iconst (v := 0) hx hb dX12_change_67 (by decide) ?_
      exact tX12_change_68 hI    X a1 a2 a3 0 m_10 _ _ _  h hP hS (lv_sub hl [0, 1, 2, 3] rfl)
    · have h := ifn c_12 h
      refine lv_iload_n hx hb dX12_change_20 rfl (lv_at hl 3 rfl) ?_
      refine lv_i2l hx hb dX12_change_21 rfl ?_
      refine lv_iload_n hx hb dX12_change_22 rfl (lv_at hl 2 rfl) ?_
      refine lv_iconst (v := 2) hx hb dX12_change_23 (by decide) ?_
      refine lv_icmp_ne (tgt := 31) hx hb dX12_change_24 (by decide) (fun c_13 => ?_) (fun c_13 => ?_)
      · have h := ifn c_13 h
        refine lv_lconst (v := 0) hx hb dX12_change_31 (by decide) ?_
        exact tX12_change_32 hI    X a1 a2 a3 0 (Int32.toInt64 a3) m_10 _ _ _  h hP hS (lv_sub hl [0, 1, 2, 3] rfl)
      · have h := ifp c_13 h
        refine lv_lconst (v := 1) hx hb dX12_change_27 (by decide) ?_
        refine lv_goto (tgt := 32) hx hb dX12_change_28 (by decide) ?_
        exact tX12_change_32 hI    X a1 a2 a3 1 (Int32.toInt64 a3) m_10 _ _ _  h hP hS (lv_sub hl [0, 1, 2, 3] rfl)

def fX12_remake (a1 : Int32) (a2 : Int32) (m : Mm) : Option (Int32 × Mm) := bd (fX12_isOne a1 m) fun r_1 m_2 => (if r_1 = 0 then some ((-1), m_2) else bd (fX12_isIn (Int32.toInt64 a2) (1 : Int64) (5 : Int64) m_2) fun r_5 m_6 => (if r_5 = 0 then some ((-1), m_6) else bd (fX12_becomes ((8 : Int32) + ((5 : Int32) * a1)) a2 m_6) fun r_9 m_10 => some (r_9, m_10)))
set_option maxHeartbeats 4000000 in
set_option maxRecDepth 100000 in
theorem tX12_remake {l : Launch} {D : va_G} {cA : Nat → ClassId} {A : Nat → Nat} (hI : InjA rN A) {a1 : Int32} {a2 : Int32} {m m' : Mm} {r : Int32} (h : fX12_remake a1 a2 m = some (r, m')) : Met0 l yX12_remake cX12_remake 3 (some .int) { frames := 1, cells := 0, slots := 0, locals := 25 } rLay rN D cA A [.ref (A 0), .int a1, .int a2] m (some (.int r)) m' := by
  refine met0_of (by decide) (Nat.le_of_ble_eq_true rfl) hI ?_
  intro p e s m0 below meth c ls X hinit hP hS hl
  generalize ([.ref (A 0), .int a1, .int a2] : List Value).toArray = args at X ⊢
  have hl : lv_has ls 3 [(0, .ref (A 0)), (1, .int a1), (2, .int a2)] := hl
  have X : CX rLay rN D cA A p s m0 args meth c "BenchTowelsModel" cX12_remake 3 (some .int) := X
  have hx := X.1
  have hb := X.2.1
  have hml := X.2.2.1
  have hown := X.2.2.2.1
  have hts := X.2.2.2.2.1
  have hF := X.2.2.2.2.2.2.2.2.1
  rewrite [fX12_remake] at h
  refine lv_aload_n hx hb dX12_remake_0 rfl (lv_at hl 0 rfl) ?_
  refine lv_iload_n hx hb dX12_remake_1 rfl (lv_at hl 1 rfl) ?_
  obtain ⟨r_1, m_2, hc_3, h⟩ := bd_some h
  refine c_V (rest := []) X hP hS (tX12_isOne hI  hc_3) (by decide) (L_ref _) rfl wt_6_67 wt_6_69 ws_2_8 wt_1_13 wt_6_70 ⟨rfl, hy_X12_isOne⟩ ⟨rfl, rfl⟩ ⟨Nat.le_of_ble_eq_true rfl, Nat.le_of_ble_eq_true rfl⟩ rfl hl.1 rfl (Nat.le_of_ble_eq_true rfl) dX12_remake_2 rfl (fun H locs hP hS => ?_)
  refine lv_if_eq (tgt := 34) hx hb dX12_remake_5 (by decide) (fun c_4 => ?_) (fun c_4 => ?_)
  · have h := ifp c_4 h
    refine lv_iconst (v := (-1)) hx hb dX12_remake_34 (by decide) ?_
    exact r_iret X hP hS dX12_remake_35 h
  · have h := ifn c_4 h
    refine lv_iload_n hx hb dX12_remake_8 rfl (lv_at hl 2 rfl) ?_
    refine lv_i2l hx hb dX12_remake_9 rfl ?_
    refine lv_lconst (v := 1) hx hb dX12_remake_10 (by decide) ?_
    refine lv_ldc2 (v := 5) hx hb hown (hts _ wt_6_54) dX12_remake_11 ?_
    obtain ⟨r_5, m_6, hc_7, h⟩ := bd_some h
    refine c_S (rest := []) X hP hS (tX12_isIn hI  hc_7) wt_6_55 wt_6_56 wt_1_13 wt_6_57 hy_X12_isIn ⟨rfl, rfl⟩ ⟨Nat.le_of_ble_eq_true rfl, Nat.le_of_ble_eq_true rfl⟩ rfl hl.1 rfl (Nat.le_of_ble_eq_true rfl) dX12_remake_14 rfl (fun H locs hP hS => ?_)
    refine lv_if_eq (tgt := 34) hx hb dX12_remake_17 (by decide) (fun c_8 => ?_) (fun c_8 => ?_)
    · have h := ifp c_8 h
      refine lv_iconst (v := (-1)) hx hb dX12_remake_34 (by decide) ?_
      exact r_iret X hP hS dX12_remake_35 h
    · have h := ifn c_8 h
      refine lv_aload_n hx hb dX12_remake_20 rfl (lv_at hl 0 rfl) ?_
      refine lv_bipush (v := 8) hx hb dX12_remake_21 (by decide) ?_
      refine lv_iconst (v := 5) hx hb dX12_remake_23 (by decide) ?_
      refine lv_iload_n hx hb dX12_remake_24 rfl (lv_at hl 1 rfl) ?_
      refine lv_imul hx hb dX12_remake_25 ?_
      refine lv_iadd hx hb dX12_remake_26 ?_
      refine lv_iload_n hx hb dX12_remake_27 rfl (lv_at hl 2 rfl) ?_
      obtain ⟨r_9, m_10, hc_11, h⟩ := bd_some h
      refine c_V (rest := []) X hP hS (tX12_becomes hI  hc_11) (by decide) (L_ref _) rfl wt_6_113 wt_6_115 ws_3_1 wt_1_13 wt_6_116 ⟨rfl, hy_X12_becomes⟩ ⟨rfl, rfl⟩ ⟨Nat.le_of_ble_eq_true rfl, Nat.le_of_ble_eq_true rfl⟩ rfl hl.1 rfl (Nat.le_of_ble_eq_true rfl) dX12_remake_28 rfl (fun H locs hP hS => ?_)
      refine lv_goto (tgt := 35) hx hb dX12_remake_31 (by decide) ?_
      exact r_iret X hP hS dX12_remake_35 h

def fX12_machine_53  (x1 : Int32) (x3 : Int32) (s0 : Int32) (m : Mm) : Option (Int32 × Mm) := bd (fX12_becomes (s0 + x1) x3 m) fun r_15 m_16 => some (r_15, m_16)
set_option maxHeartbeats 4000000 in
set_option maxRecDepth 100000 in
theorem tX12_machine_53 (hI : InjA rN A)  {r : Int32} {m' : Mm} (X : CX rLay rN D cA A p s m0 args meth c "BenchTowelsModel" cX12_machine 4 (some .int)) : ∀ (x1 : Int32) (x3 : Int32) (s0 : Int32) (m : Mm) (H : Heap) (locs : List Loc) (ls : Array Slot), fX12_machine_53 x1 x3 s0 m = some (r, m') → va_P D vwCl (wsOf rLay rN cA A m) H → va_S (AW rN A) s.heap H locs → lv_has ls 4 [(1, .int x1), (3, .int x3)] → W p l e { frames := 1, cells := 0, slots := 0, locals := 25 } s m0 args below meth c H locs 0 0 (ZR below args s rLay rN D cA A (some (.int r)) m') (F0 m0 53 ls [.int s0, .ref (A 0)]) := by
  have hx := X.1
  have hb := X.2.1
  have hml := X.2.2.1
  have hown := X.2.2.2.1
  have hts := X.2.2.2.2.1
  have hF := X.2.2.2.2.2.2.2.2.1
  intro x1 x3 s0 m H locs ls h hP hS hl
  rewrite [fX12_machine_53] at h
  refine lv_iload_n hx hb dX12_machine_53 rfl (lv_at hl 0 rfl) ?_
  refine lv_iadd hx hb dX12_machine_54 ?_
  refine lv_iload_n hx hb dX12_machine_55 rfl (lv_at hl 1 rfl) ?_
  obtain ⟨r_15, m_16, hc_17, h⟩ := bd_some h
  refine c_V (rest := []) X hP hS (tX12_becomes hI  hc_17) (by decide) (L_ref _) rfl wt_6_113 wt_6_115 ws_3_1 wt_1_13 wt_6_116 ⟨rfl, hy_X12_becomes⟩ ⟨rfl, rfl⟩ ⟨Nat.le_of_ble_eq_true rfl, Nat.le_of_ble_eq_true rfl⟩ rfl hl.1 rfl (Nat.le_of_ble_eq_true rfl) dX12_machine_56 rfl (fun H locs hP hS => ?_)
  exact r_iret X hP hS dX12_machine_59 h

def fX12_machine_33  (x1 : Int32) (x2 : Int32) (x3 : Int32) (s0 : Int64) (s1 : Int64) (s2 : Int64) (m : Mm) : Option (Int32 × Mm) := bd (fX12_isIn s2 s1 s0 m) fun r_10 m_11 => (if r_10 = 0 then some ((-1), m_11) else (if x2 = 0 then (fX12_machine_53  x1 x3 41 m_11) else (fX12_machine_53  x1 x3 47 m_11)))
set_option maxHeartbeats 4000000 in
set_option maxRecDepth 100000 in
theorem tX12_machine_33 (hI : InjA rN A)  {r : Int32} {m' : Mm} (X : CX rLay rN D cA A p s m0 args meth c "BenchTowelsModel" cX12_machine 4 (some .int)) : ∀ (x1 : Int32) (x2 : Int32) (x3 : Int32) (s0 : Int64) (s1 : Int64) (s2 : Int64) (m : Mm) (H : Heap) (locs : List Loc) (ls : Array Slot), fX12_machine_33 x1 x2 x3 s0 s1 s2 m = some (r, m') → va_P D vwCl (wsOf rLay rN cA A m) H → va_S (AW rN A) s.heap H locs → lv_has ls 4 [(0, .ref (A 0)), (1, .int x1), (2, .int x2), (3, .int x3)] → W p l e { frames := 1, cells := 0, slots := 0, locals := 25 } s m0 args below meth c H locs 0 0 (ZR below args s rLay rN D cA A (some (.int r)) m') (F0 m0 33 ls [.long s0, .long s1, .long s2]) := by
  have hx := X.1
  have hb := X.2.1
  have hml := X.2.2.1
  have hown := X.2.2.2.1
  have hts := X.2.2.2.2.1
  have hF := X.2.2.2.2.2.2.2.2.1
  intro x1 x2 x3 s0 s1 s2 m H locs ls h hP hS hl
  rewrite [fX12_machine_33] at h
  obtain ⟨r_10, m_11, hc_12, h⟩ := bd_some h
  refine c_S (rest := []) X hP hS (tX12_isIn hI  hc_12) wt_6_55 wt_6_56 wt_1_13 wt_6_57 hy_X12_isIn ⟨rfl, rfl⟩ ⟨Nat.le_of_ble_eq_true rfl, Nat.le_of_ble_eq_true rfl⟩ rfl hl.1 rfl (Nat.le_of_ble_eq_true rfl) dX12_machine_33 rfl (fun H locs hP hS => ?_)
  refine lv_if_ne (tgt := 41) hx hb dX12_machine_36 (by decide) (fun c_13 => ?_) (fun c_13 => ?_)
  · have h := ifn c_13 h
    refine lv_aload_n hx hb dX12_machine_41 rfl (lv_at hl 0 rfl) ?_
    refine lv_iload_n hx hb dX12_machine_42 rfl (lv_at hl 2 rfl) ?_
    refine lv_if_ne (tgt := 51) hx hb dX12_machine_43 (by decide) (fun c_14 => ?_) (fun c_14 => ?_)
    · have h := ifn c_14 h
      refine lv_bipush (v := 47) hx hb dX12_machine_51 (by decide) ?_
      exact tX12_machine_53 hI    X x1 x3 47 m_11 _ _ _  h hP hS (lv_sub hl [1, 3] rfl)
    · have h := ifp c_14 h
      refine lv_bipush (v := 41) hx hb dX12_machine_46 (by decide) ?_
      refine lv_goto (tgt := 53) hx hb dX12_machine_48 (by decide) ?_
      exact tX12_machine_53 hI    X x1 x3 41 m_11 _ _ _  h hP hS (lv_sub hl [1, 3] rfl)
  · have h := ifp c_13 h
    refine lv_iconst (v := (-1)) hx hb dX12_machine_39 (by decide) ?_
    exact r_iret X hP hS dX12_machine_40 h

def fX12_machine (a1 : Int32) (a2 : Int32) (a3 : Int32) (m : Mm) : Option (Int32 × Mm) := bd (fX12_isMachine a1 m) fun r_1 m_2 => (if r_1 = 0 then some ((-1), m_2) else bd (fX12_isIn (Int32.toInt64 a2) (0 : Int64) (1 : Int64) m_2) fun r_5 m_6 => (if r_5 = 0 then some ((-1), m_6) else (if a2 = 0 then (fX12_machine_33  a1 a2 a3 9 0 (Int32.toInt64 a3) m_6) else (fX12_machine_33  a1 a2 a3 65535 0 (Int32.toInt64 a3) m_6))))
set_option maxHeartbeats 4000000 in
set_option maxRecDepth 100000 in
theorem tX12_machine {l : Launch} {D : va_G} {cA : Nat → ClassId} {A : Nat → Nat} (hI : InjA rN A) {a1 : Int32} {a2 : Int32} {a3 : Int32} {m m' : Mm} {r : Int32} (h : fX12_machine a1 a2 a3 m = some (r, m')) : Met0 l yX12_machine cX12_machine 4 (some .int) { frames := 1, cells := 0, slots := 0, locals := 25 } rLay rN D cA A [.ref (A 0), .int a1, .int a2, .int a3] m (some (.int r)) m' := by
  refine met0_of (by decide) (Nat.le_of_ble_eq_true rfl) hI ?_
  intro p e s m0 below meth c ls X hinit hP hS hl
  generalize ([.ref (A 0), .int a1, .int a2, .int a3] : List Value).toArray = args at X ⊢
  have hl : lv_has ls 4 [(0, .ref (A 0)), (1, .int a1), (2, .int a2), (3, .int a3)] := hl
  have X : CX rLay rN D cA A p s m0 args meth c "BenchTowelsModel" cX12_machine 4 (some .int) := X
  have hx := X.1
  have hb := X.2.1
  have hml := X.2.2.1
  have hown := X.2.2.2.1
  have hts := X.2.2.2.2.1
  have hF := X.2.2.2.2.2.2.2.2.1
  rewrite [fX12_machine] at h
  refine lv_iload_n hx hb dX12_machine_0 rfl (lv_at hl 1 rfl) ?_
  obtain ⟨r_1, m_2, hc_3, h⟩ := bd_some h
  refine c_S (rest := []) X hP hS (tX12_isMachine hI  hc_3) wt_6_58 wt_6_59 wt_1_13 wt_6_60 hy_X12_isMachine ⟨rfl, rfl⟩ ⟨Nat.le_of_ble_eq_true rfl, Nat.le_of_ble_eq_true rfl⟩ rfl hl.1 rfl (Nat.le_of_ble_eq_true rfl) dX12_machine_1 rfl (fun H locs hP hS => ?_)
  refine lv_if_eq (tgt := 39) hx hb dX12_machine_4 (by decide) (fun c_4 => ?_) (fun c_4 => ?_)
  · have h := ifp c_4 h
    refine lv_iconst (v := (-1)) hx hb dX12_machine_39 (by decide) ?_
    exact r_iret X hP hS dX12_machine_40 h
  · have h := ifn c_4 h
    refine lv_iload_n hx hb dX12_machine_7 rfl (lv_at hl 2 rfl) ?_
    refine lv_i2l hx hb dX12_machine_8 rfl ?_
    refine lv_lconst (v := 0) hx hb dX12_machine_9 (by decide) ?_
    refine lv_lconst (v := 1) hx hb dX12_machine_10 (by decide) ?_
    obtain ⟨r_5, m_6, hc_7, h⟩ := bd_some h
    refine c_S (rest := []) X hP hS (tX12_isIn hI  hc_7) wt_6_55 wt_6_56 wt_1_13 wt_6_57 hy_X12_isIn ⟨rfl, rfl⟩ ⟨Nat.le_of_ble_eq_true rfl, Nat.le_of_ble_eq_true rfl⟩ rfl hl.1 rfl (Nat.le_of_ble_eq_true rfl) dX12_machine_11 rfl (fun H locs hP hS => ?_)
    refine lv_if_eq (tgt := 39) hx hb dX12_machine_14 (by decide) (fun c_8 => ?_) (fun c_8 => ?_)
    · have h := ifp c_8 h
      refine lv_iconst (v := (-1)) hx hb dX12_machine_39 (by decide) ?_
      exact r_iret X hP hS dX12_machine_40 h
    · have h := ifn c_8 h
      refine lv_iload_n hx hb dX12_machine_17 rfl (lv_at hl 3 rfl) ?_
      refine lv_i2l hx hb dX12_machine_18 rfl ?_
      refine lv_lconst (v := 0) hx hb dX12_machine_19 (by decide) ?_
      refine lv_iload_n hx hb dX12_machine_20 rfl (lv_at hl 2 rfl) ?_
      refine lv_if_ne (tgt := 30) hx hb dX12_machine_21 (by decide) (fun c_9 => ?_) (fun c_9 => ?_)
      · have h := ifn c_9 h
        refine lv_ldc2 (v := 65535) hx hb hown (hts _ wt_6_125) dX12_machine_30 ?_
        exact tX12_machine_33 hI    X a1 a2 a3 65535 0 (Int32.toInt64 a3) m_6 _ _ _  h hP hS (lv_sub hl [0, 1, 2, 3] rfl)
      · have h := ifp c_9 h
        refine lv_ldc2 (v := 9) hx hb hown (hts _ wt_6_61) dX12_machine_24 ?_
        refine lv_goto (tgt := 33) hx hb dX12_machine_27 (by decide) ?_
        exact tX12_machine_33 hI    X a1 a2 a3 9 0 (Int32.toInt64 a3) m_6 _ _ _  h hP hS (lv_sub hl [0, 1, 2, 3] rfl)

def fX12_machineOf (a1 : Int32) (a2 : Int32) (m : Mm) : Option (Int32 × Mm) := bd (fX12_isMachine a1 m) fun r_1 m_2 => (if r_1 = 0 then some ((-1), m_2) else bd (fX12_isIn (Int32.toInt64 a2) (0 : Int64) (1 : Int64) m_2) fun r_5 m_6 => (if r_5 = 0 then some ((-1), m_6) else (if a2 = 0 then gx ((41 : Int32) + a1) 553 (some ((m_6 1 (ix ((41 : Int32) + a1))), m_6)) else gx ((47 : Int32) + a1) 553 (some ((m_6 1 (ix ((47 : Int32) + a1))), m_6)))))
set_option maxHeartbeats 4000000 in
set_option maxRecDepth 100000 in
theorem tX12_machineOf {l : Launch} {D : va_G} {cA : Nat → ClassId} {A : Nat → Nat} (hI : InjA rN A) {a1 : Int32} {a2 : Int32} {m m' : Mm} {r : Int32} (h : fX12_machineOf a1 a2 m = some (r, m')) : Met0 l yX12_machineOf cX12_machineOf 3 (some .int) { frames := 1, cells := 0, slots := 0, locals := 25 } rLay rN D cA A [.ref (A 0), .int a1, .int a2] m (some (.int r)) m' := by
  refine met0_of (by decide) (Nat.le_of_ble_eq_true rfl) hI ?_
  intro p e s m0 below meth c ls X hinit hP hS hl
  generalize ([.ref (A 0), .int a1, .int a2] : List Value).toArray = args at X ⊢
  have hl : lv_has ls 3 [(0, .ref (A 0)), (1, .int a1), (2, .int a2)] := hl
  have X : CX rLay rN D cA A p s m0 args meth c "BenchTowelsModel" cX12_machineOf 3 (some .int) := X
  have hx := X.1
  have hb := X.2.1
  have hml := X.2.2.1
  have hown := X.2.2.2.1
  have hts := X.2.2.2.2.1
  have hF := X.2.2.2.2.2.2.2.2.1
  rewrite [fX12_machineOf] at h
  refine lv_iload_n hx hb dX12_machineOf_0 rfl (lv_at hl 1 rfl) ?_
  obtain ⟨r_1, m_2, hc_3, h⟩ := bd_some h
  refine c_S (rest := []) X hP hS (tX12_isMachine hI  hc_3) wt_6_58 wt_6_59 wt_1_13 wt_6_60 hy_X12_isMachine ⟨rfl, rfl⟩ ⟨Nat.le_of_ble_eq_true rfl, Nat.le_of_ble_eq_true rfl⟩ rfl hl.1 rfl (Nat.le_of_ble_eq_true rfl) dX12_machineOf_1 rfl (fun H locs hP hS => ?_)
  refine lv_if_eq (tgt := 17) hx hb dX12_machineOf_4 (by decide) (fun c_4 => ?_) (fun c_4 => ?_)
  · have h := ifp c_4 h
    refine lv_iconst (v := (-1)) hx hb dX12_machineOf_17 (by decide) ?_
    exact r_iret X hP hS dX12_machineOf_18 h
  · have h := ifn c_4 h
    refine lv_iload_n hx hb dX12_machineOf_7 rfl (lv_at hl 2 rfl) ?_
    refine lv_i2l hx hb dX12_machineOf_8 rfl ?_
    refine lv_lconst (v := 0) hx hb dX12_machineOf_9 (by decide) ?_
    refine lv_lconst (v := 1) hx hb dX12_machineOf_10 (by decide) ?_
    obtain ⟨r_5, m_6, hc_7, h⟩ := bd_some h
    refine c_S (rest := []) X hP hS (tX12_isIn hI  hc_7) wt_6_55 wt_6_56 wt_1_13 wt_6_57 hy_X12_isIn ⟨rfl, rfl⟩ ⟨Nat.le_of_ble_eq_true rfl, Nat.le_of_ble_eq_true rfl⟩ rfl hl.1 rfl (Nat.le_of_ble_eq_true rfl) dX12_machineOf_11 rfl (fun H locs hP hS => ?_)
    refine lv_if_ne (tgt := 19) hx hb dX12_machineOf_14 (by decide) (fun c_8 => ?_) (fun c_8 => ?_)
    · have h := ifn c_8 h
      refine lv_aload_n hx hb dX12_machineOf_19 rfl (lv_at hl 0 rfl) ?_
      refine r_get kc_12 0 X hP (by decide) (L_ref _) (by decide) rfl wt_5_172 dX12_machineOf_20 ?_
      refine lv_iload_n hx hb dX12_machineOf_23 rfl (lv_at hl 2 rfl) ?_
      refine lv_if_ne (tgt := 32) hx hb dX12_machineOf_24 (by decide) (fun c_9 => ?_) (fun c_9 => ?_)
      · have h := ifn c_9 h
        refine lv_bipush (v := 47) hx hb dX12_machineOf_32 (by decide) ?_
        refine lv_iload_n hx hb dX12_machineOf_34 rfl (lv_at hl 1 rfl) ?_
        refine lv_iadd hx hb dX12_machineOf_35 ?_
        obtain ⟨hin_10, h⟩ := gx_some h
        refine r_iald X hP (by decide) (Lr_1 _) hin_10 rfl dX12_machineOf_36 ?_
        exact r_iret X hP hS dX12_machineOf_37 h
      · have h := ifp c_9 h
        refine lv_bipush (v := 41) hx hb dX12_machineOf_27 (by decide) ?_
        refine lv_goto (tgt := 34) hx hb dX12_machineOf_29 (by decide) ?_
        refine lv_iload_n hx hb dX12_machineOf_34 rfl (lv_at hl 1 rfl) ?_
        refine lv_iadd hx hb dX12_machineOf_35 ?_
        obtain ⟨hin_11, h⟩ := gx_some h
        refine r_iald X hP (by decide) (Lr_1 _) hin_11 rfl dX12_machineOf_36 ?_
        exact r_iret X hP hS dX12_machineOf_37 h
    · have h := ifp c_8 h
      refine lv_iconst (v := (-1)) hx hb dX12_machineOf_17 (by decide) ?_
      exact r_iret X hP hS dX12_machineOf_18 h

def fX12_tire (a1 : Int32) (a2 : Int32) (m : Mm) : Option (Int32 × Mm) := bd (fX12_isIn (Int32.toInt64 a1) (0 : Int64) (2 : Int64) m) fun r_1 m_2 => (if r_1 = 0 then some ((-1), m_2) else bd (fX12_isIn (Int32.toInt64 a2) (0 : Int64) (9 : Int64) m_2) fun r_5 m_6 => (if r_5 = 0 then some ((-1), m_6) else bd (fX12_becomes ((38 : Int32) + a1) a2 m_6) fun r_9 m_10 => some (r_9, m_10)))
set_option maxHeartbeats 4000000 in
set_option maxRecDepth 100000 in
theorem tX12_tire {l : Launch} {D : va_G} {cA : Nat → ClassId} {A : Nat → Nat} (hI : InjA rN A) {a1 : Int32} {a2 : Int32} {m m' : Mm} {r : Int32} (h : fX12_tire a1 a2 m = some (r, m')) : Met0 l yX12_tire cX12_tire 3 (some .int) { frames := 1, cells := 0, slots := 0, locals := 25 } rLay rN D cA A [.ref (A 0), .int a1, .int a2] m (some (.int r)) m' := by
  refine met0_of (by decide) (Nat.le_of_ble_eq_true rfl) hI ?_
  intro p e s m0 below meth c ls X hinit hP hS hl
  generalize ([.ref (A 0), .int a1, .int a2] : List Value).toArray = args at X ⊢
  have hl : lv_has ls 3 [(0, .ref (A 0)), (1, .int a1), (2, .int a2)] := hl
  have X : CX rLay rN D cA A p s m0 args meth c "BenchTowelsModel" cX12_tire 3 (some .int) := X
  have hx := X.1
  have hb := X.2.1
  have hml := X.2.2.1
  have hown := X.2.2.2.1
  have hts := X.2.2.2.2.1
  have hF := X.2.2.2.2.2.2.2.2.1
  rewrite [fX12_tire] at h
  refine lv_iload_n hx hb dX12_tire_0 rfl (lv_at hl 1 rfl) ?_
  refine lv_i2l hx hb dX12_tire_1 rfl ?_
  refine lv_lconst (v := 0) hx hb dX12_tire_2 (by decide) ?_
  refine lv_ldc2 (v := 2) hx hb hown (hts _ wt_6_62) dX12_tire_3 ?_
  obtain ⟨r_1, m_2, hc_3, h⟩ := bd_some h
  refine c_S (rest := []) X hP hS (tX12_isIn hI  hc_3) wt_6_55 wt_6_56 wt_1_13 wt_6_57 hy_X12_isIn ⟨rfl, rfl⟩ ⟨Nat.le_of_ble_eq_true rfl, Nat.le_of_ble_eq_true rfl⟩ rfl hl.1 rfl (Nat.le_of_ble_eq_true rfl) dX12_tire_6 rfl (fun H locs hP hS => ?_)
  refine lv_if_eq (tgt := 36) hx hb dX12_tire_9 (by decide) (fun c_4 => ?_) (fun c_4 => ?_)
  · have h := ifp c_4 h
    refine lv_iconst (v := (-1)) hx hb dX12_tire_36 (by decide) ?_
    exact r_iret X hP hS dX12_tire_37 h
  · have h := ifn c_4 h
    refine lv_iload_n hx hb dX12_tire_12 rfl (lv_at hl 2 rfl) ?_
    refine lv_i2l hx hb dX12_tire_13 rfl ?_
    refine lv_lconst (v := 0) hx hb dX12_tire_14 (by decide) ?_
    refine lv_ldc2 (v := 9) hx hb hown (hts _ wt_6_61) dX12_tire_15 ?_
    obtain ⟨r_5, m_6, hc_7, h⟩ := bd_some h
    refine c_S (rest := []) X hP hS (tX12_isIn hI  hc_7) wt_6_55 wt_6_56 wt_1_13 wt_6_57 hy_X12_isIn ⟨rfl, rfl⟩ ⟨Nat.le_of_ble_eq_true rfl, Nat.le_of_ble_eq_true rfl⟩ rfl hl.1 rfl (Nat.le_of_ble_eq_true rfl) dX12_tire_18 rfl (fun H locs hP hS => ?_)
    refine lv_if_eq (tgt := 36) hx hb dX12_tire_21 (by decide) (fun c_8 => ?_) (fun c_8 => ?_)
    · have h := ifp c_8 h
      refine lv_iconst (v := (-1)) hx hb dX12_tire_36 (by decide) ?_
      exact r_iret X hP hS dX12_tire_37 h
    · have h := ifn c_8 h
      refine lv_aload_n hx hb dX12_tire_24 rfl (lv_at hl 0 rfl) ?_
      refine lv_bipush (v := 38) hx hb dX12_tire_25 (by decide) ?_
      refine lv_iload_n hx hb dX12_tire_27 rfl (lv_at hl 1 rfl) ?_
      refine lv_iadd hx hb dX12_tire_28 ?_
      refine lv_iload_n hx hb dX12_tire_29 rfl (lv_at hl 2 rfl) ?_
      obtain ⟨r_9, m_10, hc_11, h⟩ := bd_some h
      refine c_V (rest := []) X hP hS (tX12_becomes hI  hc_11) (by decide) (L_ref _) rfl wt_6_113 wt_6_115 ws_3_1 wt_1_13 wt_6_116 ⟨rfl, hy_X12_becomes⟩ ⟨rfl, rfl⟩ ⟨Nat.le_of_ble_eq_true rfl, Nat.le_of_ble_eq_true rfl⟩ rfl hl.1 rfl (Nat.le_of_ble_eq_true rfl) dX12_tire_30 rfl (fun H locs hP hS => ?_)
      refine lv_goto (tgt := 37) hx hb dX12_tire_33 (by decide) ?_
      exact r_iret X hP hS dX12_tire_37 h

def fX12_ends (a1 : Int32) (m : Mm) : Option (Int32 × Mm) := bd (fX12_isIn (Int32.toInt64 a1) (1 : Int64) (16 : Int64) m) fun r_1 m_2 => (if r_1 = 0 then some ((-1), m_2) else (if ((m_2 1 1) : Int32) ≤ a1 then bd (fX12_becomes (2 : Int32) a1 m_2) fun r_6 m_7 => some (r_6, m_7) else some ((-4), m_2)))
set_option maxHeartbeats 4000000 in
set_option maxRecDepth 100000 in
theorem tX12_ends {l : Launch} {D : va_G} {cA : Nat → ClassId} {A : Nat → Nat} (hI : InjA rN A) {a1 : Int32} {m m' : Mm} {r : Int32} (h : fX12_ends a1 m = some (r, m')) : Met0 l yX12_ends cX12_ends 2 (some .int) { frames := 1, cells := 0, slots := 0, locals := 25 } rLay rN D cA A [.ref (A 0), .int a1] m (some (.int r)) m' := by
  refine met0_of (by decide) (Nat.le_of_ble_eq_true rfl) hI ?_
  intro p e s m0 below meth c ls X hinit hP hS hl
  generalize ([.ref (A 0), .int a1] : List Value).toArray = args at X ⊢
  have hl : lv_has ls 2 [(0, .ref (A 0)), (1, .int a1)] := hl
  have X : CX rLay rN D cA A p s m0 args meth c "BenchTowelsModel" cX12_ends 2 (some .int) := X
  have hx := X.1
  have hb := X.2.1
  have hml := X.2.2.1
  have hown := X.2.2.2.1
  have hts := X.2.2.2.2.1
  have hF := X.2.2.2.2.2.2.2.2.1
  rewrite [fX12_ends] at h
  refine lv_iload_n hx hb dX12_ends_0 rfl (lv_at hl 1 rfl) ?_
  refine lv_i2l hx hb dX12_ends_1 rfl ?_
  refine lv_lconst (v := 1) hx hb dX12_ends_2 (by decide) ?_
  refine lv_ldc2 (v := 16) hx hb hown (hts _ wt_6_138) dX12_ends_3 ?_
  obtain ⟨r_1, m_2, hc_3, h⟩ := bd_some h
  refine c_S (rest := []) X hP hS (tX12_isIn hI  hc_3) wt_6_55 wt_6_56 wt_1_13 wt_6_57 hy_X12_isIn ⟨rfl, rfl⟩ ⟨Nat.le_of_ble_eq_true rfl, Nat.le_of_ble_eq_true rfl⟩ rfl hl.1 rfl (Nat.le_of_ble_eq_true rfl) dX12_ends_6 rfl (fun H locs hP hS => ?_)
  refine lv_if_ne (tgt := 14) hx hb dX12_ends_9 (by decide) (fun c_4 => ?_) (fun c_4 => ?_)
  · have h := ifn c_4 h
    refine lv_iload_n hx hb dX12_ends_14 rfl (lv_at hl 1 rfl) ?_
    refine lv_aload_n hx hb dX12_ends_15 rfl (lv_at hl 0 rfl) ?_
    refine r_get kc_12 0 X hP (by decide) (L_ref _) (by decide) rfl wt_5_172 dX12_ends_16 ?_
    refine lv_iconst (v := 1) hx hb dX12_ends_19 (by decide) ?_
    refine r_iald X hP (by decide) (Lr_1 _) (vpc (by decide)) ixc_1 dX12_ends_20 ?_
    refine lv_icmp_ge (tgt := 29) hx hb dX12_ends_21 (by decide) (fun c_5 => ?_) (fun c_5 => ?_)
    · have h := ifp c_5 h
      refine lv_aload_n hx hb dX12_ends_29 rfl (lv_at hl 0 rfl) ?_
      refine lv_iconst (v := 2) hx hb dX12_ends_30 (by decide) ?_
      refine lv_iload_n hx hb dX12_ends_31 rfl (lv_at hl 1 rfl) ?_
      obtain ⟨r_6, m_7, hc_8, h⟩ := bd_some h
      refine c_V (rest := []) X hP hS (tX12_becomes hI  hc_8) (by decide) (L_ref _) rfl wt_6_113 wt_6_115 ws_3_1 wt_1_13 wt_6_116 ⟨rfl, hy_X12_becomes⟩ ⟨rfl, rfl⟩ ⟨Nat.le_of_ble_eq_true rfl, Nat.le_of_ble_eq_true rfl⟩ rfl hl.1 rfl (Nat.le_of_ble_eq_true rfl) dX12_ends_32 rfl (fun H locs hP hS => ?_)
      exact r_iret X hP hS dX12_ends_35 h
    · have h := ifn c_5 h
      refine lv_bipush (v := (-4)) hx hb dX12_ends_24 (by decide) ?_
      refine lv_goto (tgt := 35) hx hb dX12_ends_26 (by decide) ?_
      exact r_iret X hP hS dX12_ends_35 h
  · have h := ifp c_4 h
    refine lv_iconst (v := (-1)) hx hb dX12_ends_12 (by decide) ?_
    exact r_iret X hP hS dX12_ends_13 h

def fX12_anew_35  : Nat → Int32 → Mm → Option (Int32 × Mm)
  | 0, _, _ => none
  | n + 1, x1, m => (if (47 : Int32) ≤ x1 then lt (up m 1 3 0) fun m_3 => bd (fX12_becomes (1 : Int32) (0 : Int32) m_3) fun r_5 m_6 => some (r_5, m_6) else gx x1 553 (lt (up m 1 (ix x1) 0) fun m_9 => lt ((x1 : Int32) + 1) fun x1_11 => (fX12_anew_35 n x1_11 m_9)))
set_option maxHeartbeats 4000000 in
set_option maxRecDepth 100000 in
theorem tX12_anew_35 (hI : InjA rN A)  {r : Int32} {m' : Mm} (X : CX rLay rN D cA A p s m0 args meth c "BenchTowelsModel" cX12_anew 2 (some .int)) : ∀ (n : Nat) (x1 : Int32) (m : Mm) (H : Heap) (locs : List Loc) (ls : Array Slot), fX12_anew_35 n x1 m = some (r, m') → va_P D vwCl (wsOf rLay rN cA A m) H → va_S (AW rN A) s.heap H locs → lv_has ls 2 [(0, .ref (A 0)), (1, .int x1)] → W p l e { frames := 1, cells := 0, slots := 0, locals := 23 } s m0 args below meth c H locs 0 0 (ZR below args s rLay rN D cA A (some (.int r)) m') (F0 m0 35 ls []) := by
  have hx := X.1
  have hb := X.2.1
  have hml := X.2.2.1
  have hown := X.2.2.2.1
  have hts := X.2.2.2.2.1
  have hF := X.2.2.2.2.2.2.2.2.1
  intro n
  induction n with
  | zero =>
    intro x1 m H locs ls h hP hS hl
    exact absurd h (by rewrite [fX12_anew_35]; exact fun q => by cases q)
  | succ n ih =>
    intro x1 m H locs ls h hP hS hl
    rewrite [fX12_anew_35] at h
    refine lv_iload_n hx hb dX12_anew_35 rfl (lv_at hl 1 rfl) ?_
    refine lv_bipush (v := 47) hx hb dX12_anew_36 (by decide) ?_
    refine lv_icmp_ge (tgt := 54) hx hb dX12_anew_38 (by decide) (fun c_2 => ?_) (fun c_2 => ?_)
    · have h := ifp c_2 h
      refine lv_aload_n hx hb dX12_anew_54 rfl (lv_at hl 0 rfl) ?_
      refine r_get kc_12 0 X hP (by decide) (L_ref _) (by decide) rfl wt_5_172 dX12_anew_55 ?_
      refine lv_iconst (v := 3) hx hb dX12_anew_58 (by decide) ?_
      refine lv_iconst (v := 0) hx hb dX12_anew_59 (by decide) ?_
      obtain ⟨m_3, em_4, h⟩ := lt_some h
      refine r_iast X hP hS (by decide) Lr_1 (vpc (by decide)) ixc_3 dX12_anew_60 em_4 (fun H locs hP hS => ?_)
      refine lv_aload_n hx hb dX12_anew_61 rfl (lv_at hl 0 rfl) ?_
      refine lv_iconst (v := 1) hx hb dX12_anew_62 (by decide) ?_
      refine lv_iconst (v := 0) hx hb dX12_anew_63 (by decide) ?_
      obtain ⟨r_5, m_6, hc_7, h⟩ := bd_some h
      refine c_V (rest := []) X hP hS (tX12_becomes hI  hc_7) (by decide) (L_ref _) rfl wt_6_113 wt_6_115 ws_3_1 wt_1_13 wt_6_116 ⟨rfl, hy_X12_becomes⟩ ⟨rfl, rfl⟩ ⟨Nat.le_of_ble_eq_true rfl, Nat.le_of_ble_eq_true rfl⟩ rfl hl.1 rfl (Nat.le_of_ble_eq_true rfl) dX12_anew_64 rfl (fun H locs hP hS => ?_)
      exact r_iret X hP hS dX12_anew_67 h
    · have h := ifn c_2 h
      refine lv_aload_n hx hb dX12_anew_41 rfl (lv_at hl 0 rfl) ?_
      refine r_get kc_12 0 X hP (by decide) (L_ref _) (by decide) rfl wt_5_172 dX12_anew_42 ?_
      refine lv_iload_n hx hb dX12_anew_45 rfl (lv_at hl 1 rfl) ?_
      refine lv_iconst (v := 0) hx hb dX12_anew_46 (by decide) ?_
      obtain ⟨hin_8, h⟩ := gx_some h
      obtain ⟨m_9, em_10, h⟩ := lt_some h
      refine r_iast X hP hS (by decide) Lr_1 hin_8 rfl dX12_anew_47 em_10 (fun H locs hP hS => ?_)
      obtain ⟨x1_11, ex_12, h⟩ := lt_some h
      refine lv_iinc (v := x1_11) (lv' := [(1, .int x1_11), (0, .ref (A 0))]) hx hb dX12_anew_48 hl (k := 1) rfl (by rw [ex_12]; rfl) (by decide) rfl (fun ls hl => ?_)
      refine lv_goto (tgt := 35) hx hb dX12_anew_51 (by decide) ?_
      exact ih x1_11 m_9 _ _ _  h hP hS (lv_sub hl [1, 0] rfl)

def fX12_anew_2  : Nat → Int32 → Mm → Option (Int32 × Mm)
  | 0, _, _ => none
  | n + 1, x1, m => (if ((m 1 0) : Int32) ≤ x1 then (fX12_anew_35  FL 38 m) else gx (((8 : Int32) + ((5 : Int32) * x1)) + 4) 553 (lt (up m 1 (ix (((8 : Int32) + ((5 : Int32) * x1)) + 4)) 3) fun m_14 => lt ((x1 : Int32) + 1) fun x1_16 => (fX12_anew_2 n x1_16 m_14)))
set_option maxHeartbeats 4000000 in
set_option maxRecDepth 100000 in
theorem tX12_anew_2 (hI : InjA rN A)  {r : Int32} {m' : Mm} (X : CX rLay rN D cA A p s m0 args meth c "BenchTowelsModel" cX12_anew 2 (some .int)) : ∀ (n : Nat) (x1 : Int32) (m : Mm) (H : Heap) (locs : List Loc) (ls : Array Slot), fX12_anew_2 n x1 m = some (r, m') → va_P D vwCl (wsOf rLay rN cA A m) H → va_S (AW rN A) s.heap H locs → lv_has ls 2 [(0, .ref (A 0)), (1, .int x1)] → W p l e { frames := 1, cells := 0, slots := 0, locals := 23 } s m0 args below meth c H locs 0 0 (ZR below args s rLay rN D cA A (some (.int r)) m') (F0 m0 2 ls []) := by
  have hx := X.1
  have hb := X.2.1
  have hml := X.2.2.1
  have hown := X.2.2.2.1
  have hts := X.2.2.2.2.1
  have hF := X.2.2.2.2.2.2.2.2.1
  intro n
  induction n with
  | zero =>
    intro x1 m H locs ls h hP hS hl
    exact absurd h (by rewrite [fX12_anew_2]; exact fun q => by cases q)
  | succ n ih =>
    intro x1 m H locs ls h hP hS hl
    rewrite [fX12_anew_2] at h
    refine lv_iload_n hx hb dX12_anew_2 rfl (lv_at hl 1 rfl) ?_
    refine lv_aload_n hx hb dX12_anew_3 rfl (lv_at hl 0 rfl) ?_
    refine r_get kc_12 0 X hP (by decide) (L_ref _) (by decide) rfl wt_5_172 dX12_anew_4 ?_
    refine lv_iconst (v := 0) hx hb dX12_anew_7 (by decide) ?_
    refine r_iald X hP (by decide) (Lr_1 _) (vpc (by decide)) ixc_0 dX12_anew_8 ?_
    refine lv_icmp_ge (tgt := 32) hx hb dX12_anew_9 (by decide) (fun c_1 => ?_) (fun c_1 => ?_)
    · have h := ifp c_1 h
      refine lv_bipush (v := 38) hx hb dX12_anew_32 (by decide) ?_
      refine lv_istore_n (lv' := [(1, .int 38), (0, .ref (A 0))]) hx hb dX12_anew_34 rfl hl (by decide) rfl (fun ls hl => ?_)
      exact tX12_anew_35 hI    X FL 38 m _ _ _  h hP hS (lv_sub hl [1, 0] rfl)
    · have h := ifn c_1 h
      refine lv_aload_n hx hb dX12_anew_12 rfl (lv_at hl 0 rfl) ?_
      refine r_get kc_12 0 X hP (by decide) (L_ref _) (by decide) rfl wt_5_172 dX12_anew_13 ?_
      refine lv_bipush (v := 8) hx hb dX12_anew_16 (by decide) ?_
      refine lv_iconst (v := 5) hx hb dX12_anew_18 (by decide) ?_
      refine lv_iload_n hx hb dX12_anew_19 rfl (lv_at hl 1 rfl) ?_
      refine lv_imul hx hb dX12_anew_20 ?_
      refine lv_iadd hx hb dX12_anew_21 ?_
      refine lv_iconst (v := 4) hx hb dX12_anew_22 (by decide) ?_
      refine lv_iadd hx hb dX12_anew_23 ?_
      refine lv_iconst (v := 3) hx hb dX12_anew_24 (by decide) ?_
      obtain ⟨hin_13, h⟩ := gx_some h
      obtain ⟨m_14, em_15, h⟩ := lt_some h
      refine r_iast X hP hS (by decide) Lr_1 hin_13 rfl dX12_anew_25 em_15 (fun H locs hP hS => ?_)
      obtain ⟨x1_16, ex_17, h⟩ := lt_some h
      refine lv_iinc (v := x1_16) (lv' := [(1, .int x1_16), (0, .ref (A 0))]) hx hb dX12_anew_26 hl (k := 1) rfl (by rw [ex_17]; rfl) (by decide) rfl (fun ls hl => ?_)
      refine lv_goto (tgt := 2) hx hb dX12_anew_29 (by decide) ?_
      exact ih x1_16 m_14 _ _ _  h hP hS (lv_sub hl [1, 0] rfl)

def fX12_anew  (m : Mm) : Option (Int32 × Mm) := (fX12_anew_2  FL 0 m)
set_option maxHeartbeats 4000000 in
set_option maxRecDepth 100000 in
theorem tX12_anew {l : Launch} {D : va_G} {cA : Nat → ClassId} {A : Nat → Nat} (hI : InjA rN A) {m m' : Mm} {r : Int32} (h : fX12_anew m = some (r, m')) : Met0 l yX12_anew cX12_anew 2 (some .int) { frames := 1, cells := 0, slots := 0, locals := 23 } rLay rN D cA A [.ref (A 0)] m (some (.int r)) m' := by
  refine met0_of (by decide) (Nat.le_of_ble_eq_true rfl) hI ?_
  intro p e s m0 below meth c ls X hinit hP hS hl
  generalize ([.ref (A 0)] : List Value).toArray = args at X ⊢
  have hl : lv_has ls 2 [(0, .ref (A 0))] := hl
  have X : CX rLay rN D cA A p s m0 args meth c "BenchTowelsModel" cX12_anew 2 (some .int) := X
  have hx := X.1
  have hb := X.2.1
  have hml := X.2.2.1
  have hown := X.2.2.2.1
  have hts := X.2.2.2.2.1
  have hF := X.2.2.2.2.2.2.2.2.1
  rewrite [fX12_anew] at h
  refine lv_iconst (v := 0) hx hb dX12_anew_0 (by decide) ?_
  refine lv_istore_n (lv' := [(1, .int 0), (0, .ref (A 0))]) hx hb dX12_anew_1 rfl hl (by decide) rfl (fun ls hl => ?_)
  exact tX12_anew_2 hI    X FL 0 m _ _ _  h hP hS (lv_sub hl [1, 0] rfl)

def fX12_noneLeft_4  : Nat → Int32 → Int32 → Mm → Option (Int32 × Mm)
  | 0, _, _, _ => none
  | n + 1, x1, x2, m => (if ((m 1 0) : Int32) ≤ x2 then some (x1, m) else bd (fX12_its x2 (4 : Int32) m) fun r_2 m_3 => (if r_2 = 0 then lt (x1 ||| ((1 : Int32) <<< (x2 &&& 31))) fun x1_10 => lt ((x2 : Int32) + 1) fun x2_12 => (fX12_noneLeft_4 n x1_10 x2_12 m_3) else lt (x1 ||| 0) fun x1_6 => lt ((x2 : Int32) + 1) fun x2_8 => (fX12_noneLeft_4 n x1_6 x2_8 m_3)))
set_option maxHeartbeats 4000000 in
set_option maxRecDepth 100000 in
theorem tX12_noneLeft_4 (hI : InjA rN A)  {r : Int32} {m' : Mm} (X : CX rLay rN D cA A p s m0 args meth c "BenchTowelsModel" cX12_noneLeft 3 (some .int)) : ∀ (n : Nat) (x1 : Int32) (x2 : Int32) (m : Mm) (H : Heap) (locs : List Loc) (ls : Array Slot), fX12_noneLeft_4 n x1 x2 m = some (r, m') → va_P D vwCl (wsOf rLay rN cA A m) H → va_S (AW rN A) s.heap H locs → lv_has ls 3 [(0, .ref (A 0)), (1, .int x1), (2, .int x2)] → W p l e { frames := 1, cells := 0, slots := 0, locals := 22 } s m0 args below meth c H locs 0 0 (ZR below args s rLay rN D cA A (some (.int r)) m') (F0 m0 4 ls []) := by
  have hx := X.1
  have hb := X.2.1
  have hml := X.2.2.1
  have hown := X.2.2.2.1
  have hts := X.2.2.2.2.1
  have hF := X.2.2.2.2.2.2.2.2.1
  intro n
  induction n with
  | zero =>
    intro x1 x2 m H locs ls h hP hS hl
    exact absurd h (by rewrite [fX12_noneLeft_4]; exact fun q => by cases q)
  | succ n ih =>
    intro x1 x2 m H locs ls h hP hS hl
    rewrite [fX12_noneLeft_4] at h
    refine lv_iload_n hx hb dX12_noneLeft_4 rfl (lv_at hl 2 rfl) ?_
    refine lv_aload_n hx hb dX12_noneLeft_5 rfl (lv_at hl 0 rfl) ?_
    refine r_get kc_12 0 X hP (by decide) (L_ref _) (by decide) rfl wt_5_172 dX12_noneLeft_6 ?_
    refine lv_iconst (v := 0) hx hb dX12_noneLeft_9 (by decide) ?_
    refine r_iald X hP (by decide) (Lr_1 _) (vpc (by decide)) ixc_0 dX12_noneLeft_10 ?_
    refine lv_icmp_ge (tgt := 39) hx hb dX12_noneLeft_11 (by decide) (fun c_1 => ?_) (fun c_1 => ?_)
    · have h := ifp c_1 h
      refine lv_iload_n hx hb dX12_noneLeft_39 rfl (lv_at hl 1 rfl) ?_
      exact r_iret X hP hS dX12_noneLeft_40 h
    · have h := ifn c_1 h
      refine lv_iload_n hx hb dX12_noneLeft_14 rfl (lv_at hl 1 rfl) ?_
      refine lv_aload_n hx hb dX12_noneLeft_15 rfl (lv_at hl 0 rfl) ?_
      refine lv_iload_n hx hb dX12_noneLeft_16 rfl (lv_at hl 2 rfl) ?_
      refine lv_iconst (v := 4) hx hb dX12_noneLeft_17 (by decide) ?_
      obtain ⟨r_2, m_3, hc_4, h⟩ := bd_some h
      refine c_V (rest := [.int x1]) X hP hS (tX12_its hI  hc_4) (by decide) (L_ref _) rfl wt_6_76 wt_6_78 ws_2_10 wt_1_13 wt_6_79 ⟨rfl, hy_X12_its⟩ ⟨rfl, rfl⟩ ⟨Nat.le_of_ble_eq_true rfl, Nat.le_of_ble_eq_true rfl⟩ rfl hl.1 rfl (Nat.le_of_ble_eq_true rfl) dX12_noneLeft_18 rfl (fun H locs hP hS => ?_)
      refine lv_if_ne (tgt := 30) hx hb dX12_noneLeft_21 (by decide) (fun c_5 => ?_) (fun c_5 => ?_)
      · have h := ifn c_5 h
        refine lv_iconst (v := 0) hx hb dX12_noneLeft_30 (by decide) ?_
        refine lv_ior hx hb dX12_noneLeft_31 ?_
        obtain ⟨x1_6, ex_7, h⟩ := lt_some h
        refine lv_ren ex_7 ?_
        refine lv_istore_n (lv' := [(1, .int x1_6), (0, .ref (A 0)), (2, .int x2)]) hx hb dX12_noneLeft_32 rfl hl (by decide) rfl (fun ls hl => ?_)
        obtain ⟨x2_8, ex_9, h⟩ := lt_some h
        refine lv_iinc (v := x2_8) (lv' := [(2, .int x2_8), (1, .int x1_6), (0, .ref (A 0))]) hx hb dX12_noneLeft_33 hl (k := 2) rfl (by rw [ex_9]; rfl) (by decide) rfl (fun ls hl => ?_)
        refine lv_goto (tgt := 4) hx hb dX12_noneLeft_36 (by decide) ?_
        exact ih x1_6 x2_8 m_3 _ _ _  h hP hS (lv_sub hl [2, 1, 0] rfl)
      · have h := ifp c_5 h
        refine lv_iconst (v := 1) hx hb dX12_noneLeft_24 (by decide) ?_
        refine lv_iload_n hx hb dX12_noneLeft_25 rfl (lv_at hl 2 rfl) ?_
        refine lv_ishl hx hb dX12_noneLeft_26 ?_
        refine lv_goto (tgt := 31) hx hb dX12_noneLeft_27 (by decide) ?_
        refine lv_ior hx hb dX12_noneLeft_31 ?_
        obtain ⟨x1_10, ex_11, h⟩ := lt_some h
        refine lv_ren ex_11 ?_
        refine lv_istore_n (lv' := [(1, .int x1_10), (0, .ref (A 0)), (2, .int x2)]) hx hb dX12_noneLeft_32 rfl hl (by decide) rfl (fun ls hl => ?_)
        obtain ⟨x2_12, ex_13, h⟩ := lt_some h
        refine lv_iinc (v := x2_12) (lv' := [(2, .int x2_12), (1, .int x1_10), (0, .ref (A 0))]) hx hb dX12_noneLeft_33 hl (k := 2) rfl (by rw [ex_13]; rfl) (by decide) rfl (fun ls hl => ?_)
        refine lv_goto (tgt := 4) hx hb dX12_noneLeft_36 (by decide) ?_
        exact ih x1_10 x2_12 m_3 _ _ _  h hP hS (lv_sub hl [2, 1, 0] rfl)

def fX12_noneLeft  (m : Mm) : Option (Int32 × Mm) := (fX12_noneLeft_4  FL 0 0 m)
set_option maxHeartbeats 4000000 in
set_option maxRecDepth 100000 in
theorem tX12_noneLeft {l : Launch} {D : va_G} {cA : Nat → ClassId} {A : Nat → Nat} (hI : InjA rN A) {m m' : Mm} {r : Int32} (h : fX12_noneLeft m = some (r, m')) : Met0 l yX12_noneLeft cX12_noneLeft 3 (some .int) { frames := 1, cells := 0, slots := 0, locals := 22 } rLay rN D cA A [.ref (A 0)] m (some (.int r)) m' := by
  refine met0_of (by decide) (Nat.le_of_ble_eq_true rfl) hI ?_
  intro p e s m0 below meth c ls X hinit hP hS hl
  generalize ([.ref (A 0)] : List Value).toArray = args at X ⊢
  have hl : lv_has ls 3 [(0, .ref (A 0))] := hl
  have X : CX rLay rN D cA A p s m0 args meth c "BenchTowelsModel" cX12_noneLeft 3 (some .int) := X
  have hx := X.1
  have hb := X.2.1
  have hml := X.2.2.1
  have hown := X.2.2.2.1
  have hts := X.2.2.2.2.1
  have hF := X.2.2.2.2.2.2.2.2.1
  rewrite [fX12_noneLeft] at h
  refine lv_iconst (v := 0) hx hb dX12_noneLeft_0 (by decide) ?_
  refine lv_istore_n (lv' := [(1, .int 0), (0, .ref (A 0))]) hx hb dX12_noneLeft_1 rfl hl (by decide) rfl (fun ls hl => ?_)
  refine lv_iconst (v := 0) hx hb dX12_noneLeft_2 (by decide) ?_
  refine lv_istore_n (lv' := [(2, .int 0), (1, .int 0), (0, .ref (A 0))]) hx hb dX12_noneLeft_3 rfl hl (by decide) rfl (fun ls hl => ?_)
  exact tX12_noneLeft_4 hI    X FL 0 0 m _ _ _  h hP hS (lv_sub hl [2, 1, 0] rfl)

def fX12_state (a1 : Int32) (m : Mm) : Option (Int32 × Mm) := (if a1 = 0 then gx ((1 : Int32) + a1) 553 (some ((m 1 (ix ((1 : Int32) + a1))), m)) else (if a1 = 1 then gx ((1 : Int32) + a1) 553 (some ((m 1 (ix ((1 : Int32) + a1))), m)) else (if a1 = 2 then gx ((1 : Int32) + a1) 553 (some ((m 1 (ix ((1 : Int32) + a1))), m)) else (if a1 = 3 then bd (fX12_isOver m) fun r_8 m_9 => (if r_8 = 0 then some (0, m_9) else some (1, m_9)) else (if a1 = 4 then bd (fX12_noneLeft m) fun r_13 m_14 => some (r_13, m_14) else (if a1 = 5 then gx (((38 : Int32) + a1) - 5) 553 (some ((m 1 (ix (((38 : Int32) + a1) - 5))), m)) else (if a1 = 6 then gx (((38 : Int32) + a1) - 5) 553 (some ((m 1 (ix (((38 : Int32) + a1) - 5))), m)) else (if a1 = 7 then gx (((38 : Int32) + a1) - 5) 553 (some ((m 1 (ix (((38 : Int32) + a1) - 5))), m)) else some ((-1), m)))))))))
set_option maxHeartbeats 4000000 in
set_option maxRecDepth 100000 in
theorem tX12_state {l : Launch} {D : va_G} {cA : Nat → ClassId} {A : Nat → Nat} (hI : InjA rN A) {a1 : Int32} {m m' : Mm} {r : Int32} (h : fX12_state a1 m = some (r, m')) : Met0 l yX12_state cX12_state 2 (some .int) { frames := 2, cells := 0, slots := 0, locals := 44 } rLay rN D cA A [.ref (A 0), .int a1] m (some (.int r)) m' := by
  refine met0_of (by decide) (Nat.le_of_ble_eq_true rfl) hI ?_
  intro p e s m0 below meth c ls X hinit hP hS hl
  generalize ([.ref (A 0), .int a1] : List Value).toArray = args at X ⊢
  have hl : lv_has ls 2 [(0, .ref (A 0)), (1, .int a1)] := hl
  have X : CX rLay rN D cA A p s m0 args meth c "BenchTowelsModel" cX12_state 2 (some .int) := X
  have hx := X.1
  have hb := X.2.1
  have hml := X.2.2.1
  have hown := X.2.2.2.1
  have hts := X.2.2.2.2.1
  have hF := X.2.2.2.2.2.2.2.2.1
  rewrite [fX12_state] at h
  refine lv_iload_n hx hb dX12_state_0 rfl (lv_at hl 1 rfl) ?_
  by_cases c_1 : a1 = 0
  · have h := ifp c_1 h
    refine lv_ren c_1.symm ?_
    refine lv_tableIn (tgt := 48) hx hb dX12_state_1 (by decide) (by decide) rfl (by decide) ?_
    refine lv_aload_n hx hb dX12_state_48 rfl (lv_at hl 0 rfl) ?_
    refine r_get kc_12 0 X hP (by decide) (L_ref _) (by decide) rfl wt_5_172 dX12_state_49 ?_
    refine lv_iconst (v := 1) hx hb dX12_state_52 (by decide) ?_
    refine lv_iload_n hx hb dX12_state_53 rfl (lv_at hl 1 rfl) ?_
    refine lv_iadd hx hb dX12_state_54 ?_
    obtain ⟨hin_2, h⟩ := gx_some h
    refine r_iald X hP (by decide) (Lr_1 _) hin_2 rfl dX12_state_55 ?_
    exact r_iret X hP hS dX12_state_56 h
  have h := ifn c_1 h
  by_cases c_3 : a1 = 1
  · have h := ifp c_3 h
    refine lv_ren c_3.symm ?_
    refine lv_tableIn (tgt := 48) hx hb dX12_state_1 (by decide) (by decide) rfl (by decide) ?_
    refine lv_aload_n hx hb dX12_state_48 rfl (lv_at hl 0 rfl) ?_
    refine r_get kc_12 0 X hP (by decide) (L_ref _) (by decide) rfl wt_5_172 dX12_state_49 ?_
    refine lv_iconst (v := 1) hx hb dX12_state_52 (by decide) ?_
    refine lv_iload_n hx hb dX12_state_53 rfl (lv_at hl 1 rfl) ?_
    refine lv_iadd hx hb dX12_state_54 ?_
    obtain ⟨hin_4, h⟩ := gx_some h
    refine r_iald X hP (by decide) (Lr_1 _) hin_4 rfl dX12_state_55 ?_
    exact r_iret X hP hS dX12_state_56 h
  have h := ifn c_3 h
  by_cases c_5 : a1 = 2
  · have h := ifp c_5 h
    refine lv_ren c_5.symm ?_
    refine lv_tableIn (tgt := 48) hx hb dX12_state_1 (by decide) (by decide) rfl (by decide) ?_
    refine lv_aload_n hx hb dX12_state_48 rfl (lv_at hl 0 rfl) ?_
    refine r_get kc_12 0 X hP (by decide) (L_ref _) (by decide) rfl wt_5_172 dX12_state_49 ?_
    refine lv_iconst (v := 1) hx hb dX12_state_52 (by decide) ?_
    refine lv_iload_n hx hb dX12_state_53 rfl (lv_at hl 1 rfl) ?_
    refine lv_iadd hx hb dX12_state_54 ?_
    obtain ⟨hin_6, h⟩ := gx_some h
    refine r_iald X hP (by decide) (Lr_1 _) hin_6 rfl dX12_state_55 ?_
    exact r_iret X hP hS dX12_state_56 h
  have h := ifn c_5 h
  by_cases c_7 : a1 = 3
  · have h := ifp c_7 h
    refine lv_ren c_7.symm ?_
    refine lv_tableIn (tgt := 57) hx hb dX12_state_1 (by decide) (by decide) rfl (by decide) ?_
    refine lv_aload_n hx hb dX12_state_57 rfl (lv_at hl 0 rfl) ?_
    obtain ⟨r_8, m_9, hc_10, h⟩ := bd_some h
    refine c_V (rest := []) X hP hS (tX12_isOver hI  hc_10) (by decide) (L_ref _) rfl wt_6_147 wt_6_149 ws_3_2 wt_1_13 wt_6_150 ⟨rfl, hy_X12_isOver⟩ ⟨rfl, rfl⟩ ⟨Nat.le_of_ble_eq_true rfl, Nat.le_of_ble_eq_true rfl⟩ rfl hl.1 rfl (Nat.le_of_ble_eq_true rfl) dX12_state_58 rfl (fun H locs hP hS => ?_)
    refine lv_if_eq (tgt := 68) hx hb dX12_state_61 (by decide) (fun c_11 => ?_) (fun c_11 => ?_)
    · have h := ifp c_11 h
      refine lv_iconst (v := 0) hx hb dX12_state_68 (by decide) ?_
      exact r_iret X hP hS dX12_state_69 h
    · have h := ifn c_11 h
      refine lv_iconst (v := 1) hx hb dX12_state_64 (by decide) ?_
      refine lv_goto (tgt := 69) hx hb dX12_state_65 (by decide) ?_
      exact r_iret X hP hS dX12_state_69 h
  have h := ifn c_7 h
  by_cases c_12 : a1 = 4
  · have h := ifp c_12 h
    refine lv_ren c_12.symm ?_
    refine lv_tableIn (tgt := 70) hx hb dX12_state_1 (by decide) (by decide) rfl (by decide) ?_
    refine lv_aload_n hx hb dX12_state_70 rfl (lv_at hl 0 rfl) ?_
    obtain ⟨r_13, m_14, hc_15, h⟩ := bd_some h
    refine c_V (rest := []) X hP hS (tX12_noneLeft hI  hc_15) (by decide) (L_ref _) rfl wt_6_151 wt_6_153 ws_3_3 wt_1_13 wt_6_154 ⟨rfl, hy_X12_noneLeft⟩ ⟨rfl, rfl⟩ ⟨Nat.le_of_ble_eq_true rfl, Nat.le_of_ble_eq_true rfl⟩ rfl hl.1 rfl (Nat.le_of_ble_eq_true rfl) dX12_state_71 rfl (fun H locs hP hS => ?_)
    exact r_iret X hP hS dX12_state_74 h
  have h := ifn c_12 h
  by_cases c_16 : a1 = 5
  · have h := ifp c_16 h
    refine lv_ren c_16.symm ?_
    refine lv_tableIn (tgt := 75) hx hb dX12_state_1 (by decide) (by decide) rfl (by decide) ?_
    refine lv_aload_n hx hb dX12_state_75 rfl (lv_at hl 0 rfl) ?_
    refine r_get kc_12 0 X hP (by decide) (L_ref _) (by decide) rfl wt_5_172 dX12_state_76 ?_
    refine lv_bipush (v := 38) hx hb dX12_state_79 (by decide) ?_
    refine lv_iload_n hx hb dX12_state_81 rfl (lv_at hl 1 rfl) ?_
    refine lv_iadd hx hb dX12_state_82 ?_
    refine lv_iconst (v := 5) hx hb dX12_state_83 (by decide) ?_
    refine lv_isub hx hb dX12_state_84 ?_
    obtain ⟨hin_17, h⟩ := gx_some h
    refine r_iald X hP (by decide) (Lr_1 _) hin_17 rfl dX12_state_85 ?_
    exact r_iret X hP hS dX12_state_86 h
  have h := ifn c_16 h
  by_cases c_18 : a1 = 6
  · have h := ifp c_18 h
    refine lv_ren c_18.symm ?_
    refine lv_tableIn (tgt := 75) hx hb dX12_state_1 (by decide) (by decide) rfl (by decide) ?_
    refine lv_aload_n hx hb dX12_state_75 rfl (lv_at hl 0 rfl) ?_
    refine r_get kc_12 0 X hP (by decide) (L_ref _) (by decide) rfl wt_5_172 dX12_state_76 ?_
    refine lv_bipush (v := 38) hx hb dX12_state_79 (by decide) ?_
    refine lv_iload_n hx hb dX12_state_81 rfl (lv_at hl 1 rfl) ?_
    refine lv_iadd hx hb dX12_state_82 ?_
    refine lv_iconst (v := 5) hx hb dX12_state_83 (by decide) ?_
    refine lv_isub hx hb dX12_state_84 ?_
    obtain ⟨hin_19, h⟩ := gx_some h
    refine r_iald X hP (by decide) (Lr_1 _) hin_19 rfl dX12_state_85 ?_
    exact r_iret X hP hS dX12_state_86 h
  have h := ifn c_18 h
  by_cases c_20 : a1 = 7
  · have h := ifp c_20 h
    refine lv_ren c_20.symm ?_
    refine lv_tableIn (tgt := 75) hx hb dX12_state_1 (by decide) (by decide) rfl (by decide) ?_
    refine lv_aload_n hx hb dX12_state_75 rfl (lv_at hl 0 rfl) ?_
    refine r_get kc_12 0 X hP (by decide) (L_ref _) (by decide) rfl wt_5_172 dX12_state_76 ?_
    refine lv_bipush (v := 38) hx hb dX12_state_79 (by decide) ?_
    refine lv_iload_n hx hb dX12_state_81 rfl (lv_at hl 1 rfl) ?_
    refine lv_iadd hx hb dX12_state_82 ?_
    refine lv_iconst (v := 5) hx hb dX12_state_83 (by decide) ?_
    refine lv_isub hx hb dX12_state_84 ?_
    obtain ⟨hin_21, h⟩ := gx_some h
    refine r_iald X hP (by decide) (Lr_1 _) hin_21 rfl dX12_state_85 ?_
    exact r_iret X hP hS dX12_state_86 h
  have h := ifn c_20 h
  refine lv_tableOut (tgt := 87) hx hb dX12_state_1 (by have q1000 : a1.toInt ≠ 0 := fun q => c_1 (Int32.toInt_inj.mp (q.trans (by decide)));  have q1001 : a1.toInt ≠ 1 := fun q => c_3 (Int32.toInt_inj.mp (q.trans (by decide)));  have q1002 : a1.toInt ≠ 2 := fun q => c_5 (Int32.toInt_inj.mp (q.trans (by decide)));  have q1003 : a1.toInt ≠ 3 := fun q => c_7 (Int32.toInt_inj.mp (q.trans (by decide)));  have q1004 : a1.toInt ≠ 4 := fun q => c_12 (Int32.toInt_inj.mp (q.trans (by decide)));  have q1005 : a1.toInt ≠ 5 := fun q => c_16 (Int32.toInt_inj.mp (q.trans (by decide)));  have q1006 : a1.toInt ≠ 6 := fun q => c_18 (Int32.toInt_inj.mp (q.trans (by decide)));  have q1007 : a1.toInt ≠ 7 := fun q => c_20 (Int32.toInt_inj.mp (q.trans (by decide)));  omega) (by decide) ?_
  refine lv_iconst (v := (-1)) hx hb dX12_state_87 (by decide) ?_
  exact r_iret X hP hS dX12_state_88 h

def fX12_feed_32  : Nat → Int64 → Int32 → Int32 → Mm → Option (Int32 × Mm)
  | 0, _, _, _, _ => none
  | n + 1, x1, x3, x4, m => (if (x3 : Int32) ≤ x4 then some ((m 0 5), m) else gx (m 0 5) 200 (lt (up m 4 (ix (m 0 5)) (Int64.toInt32 ((x1 >>> (Int32.toInt64 ((8 : Int32) * x4) &&& 63)) &&& 255))) fun m_8 => lt (up m_8 0 5 ((m_8 0 5) + 1)) fun m_10 => lt ((x4 : Int32) + 1) fun x4_12 => (fX12_feed_32 n x1 x3 x4_12 m_10)))
set_option maxHeartbeats 4000000 in
set_option maxRecDepth 100000 in
theorem tX12_feed_32 (hI : InjA rN A)  {r : Int32} {m' : Mm} (X : CX rLay rN D cA A p s m0 args meth c "BenchTowelsModel" cX12_feed 5 (some .int)) : ∀ (n : Nat) (x1 : Int64) (x3 : Int32) (x4 : Int32) (m : Mm) (H : Heap) (locs : List Loc) (ls : Array Slot), fX12_feed_32 n x1 x3 x4 m = some (r, m') → va_P D vwCl (wsOf rLay rN cA A m) H → va_S (AW rN A) s.heap H locs → lv_has ls 5 [(0, .ref (A 0)), (1, .long x1), (3, .int x3), (4, .int x4)] → W p l e { frames := 1, cells := 0, slots := 0, locals := 25 } s m0 args below meth c H locs 0 0 (ZR below args s rLay rN D cA A (some (.int r)) m') (F0 m0 32 ls []) := by
  have hx := X.1
  have hb := X.2.1
  have hml := X.2.2.1
  have hown := X.2.2.2.1
  have hts := X.2.2.2.2.1
  have hF := X.2.2.2.2.2.2.2.2.1
  intro n
  induction n with
  | zero =>
    intro x1 x3 x4 m H locs ls h hP hS hl
    exact absurd h (by rewrite [fX12_feed_32]; exact fun q => by cases q)
  | succ n ih =>
    intro x1 x3 x4 m H locs ls h hP hS hl
    rewrite [fX12_feed_32] at h
    refine lv_iload hx hb dX12_feed_32 (lv_at hl 3 rfl) ?_
    refine lv_iload_n hx hb dX12_feed_34 rfl (lv_at hl 2 rfl) ?_
    refine lv_icmp_ge (tgt := 75) hx hb dX12_feed_35 (by decide) (fun c_6 => ?_) (fun c_6 => ?_)
    · have h := ifp c_6 h
      refine lv_aload_n hx hb dX12_feed_75 rfl (lv_at hl 0 rfl) ?_
      refine r_get kc_12 5 X hP (by decide) (L_ref _) (by decide) rfl wt_5_177 dX12_feed_76 ?_
      exact r_iret X hP hS dX12_feed_79 h
    · have h := ifn c_6 h
      refine lv_aload_n hx hb dX12_feed_38 rfl (lv_at hl 0 rfl) ?_
      refine r_get kc_12 4 X hP (by decide) (L_ref _) (by decide) rfl wt_5_176 dX12_feed_39 ?_
      refine lv_aload_n hx hb dX12_feed_42 rfl (lv_at hl 0 rfl) ?_
      refine r_get kc_12 5 X hP (by decide) (L_ref _) (by decide) rfl wt_5_177 dX12_feed_43 ?_
      refine lv_lload_n hx hb dX12_feed_46 rfl (lv_at hl 1 rfl) ?_
      refine lv_bipush (v := 8) hx hb dX12_feed_47 (by decide) ?_
      refine lv_iload hx hb dX12_feed_49 (lv_at hl 3 rfl) ?_
      refine lv_imul hx hb dX12_feed_51 ?_
      refine lv_lshr hx hb dX12_feed_52 rfl ?_
      refine lv_ldc2 (v := 255) hx hb hown (hts _ wt_6_159) dX12_feed_53 ?_
      refine lv_land hx hb dX12_feed_56 ?_
      refine lv_l2i hx hb dX12_feed_57 rfl ?_
      obtain ⟨hin_7, h⟩ := gx_some h
      obtain ⟨m_8, em_9, h⟩ := lt_some h
      refine r_iast X hP hS (by decide) Lr_4 hin_7 rfl dX12_feed_58 em_9 (fun H locs hP hS => ?_)
      refine lv_aload_n hx hb dX12_feed_59 rfl (lv_at hl 0 rfl) ?_
      refine lv_dup hx hb dX12_feed_60 rfl ?_
      refine r_get kc_12 5 X hP (by decide) (L_ref _) (by decide) rfl wt_5_177 dX12_feed_61 ?_
      refine lv_iconst (v := 1) hx hb dX12_feed_64 (by decide) ?_
      refine lv_iadd hx hb dX12_feed_65 ?_
      obtain ⟨m_10, em_11, h⟩ := lt_some h
      refine r_put kc_12 5 X hP hS (by decide) (L_ref _) (L_ref _) (by decide) wt_5_177 rfl (by decide +kernel) (Nat.le_of_ble_eq_true rfl) dX12_feed_66 em_11 (fun H locs hP hS => ?_)
      obtain ⟨x4_12, ex_13, h⟩ := lt_some h
      refine lv_iinc (v := x4_12) (lv' := [(4, .int x4_12), (0, .ref (A 0)), (1, .long x1), (3, .int x3)]) hx hb dX12_feed_69 hl (k := 3) rfl (by rw [ex_13]; rfl) (by decide) rfl (fun ls hl => ?_)
      refine lv_goto (tgt := 32) hx hb dX12_feed_72 (by decide) ?_
      exact ih x1 x3 x4_12 m_10 _ _ _  h hP hS (lv_sub hl [1, 2, 3, 0] rfl)

def fX12_feed (a1 : Int64) (a2 : Int32) (m : Mm) : Option (Int32 × Mm) := bd (fX12_isIn (Int32.toInt64 a2) (1 : Int64) (8 : Int64) m) fun r_1 m_2 => (if r_1 = 0 then some ((-1), m_2) else (if ((m_2 0 5) + a2) ≤ 200 then (fX12_feed_32  FL a1 a2 0 m_2) else some ((-2), m_2)))
set_option maxHeartbeats 4000000 in
set_option maxRecDepth 100000 in
theorem tX12_feed {l : Launch} {D : va_G} {cA : Nat → ClassId} {A : Nat → Nat} (hI : InjA rN A) {a1 : Int64} {a2 : Int32} {m m' : Mm} {r : Int32} (h : fX12_feed a1 a2 m = some (r, m')) : Met0 l yX12_feed cX12_feed 5 (some .int) { frames := 1, cells := 0, slots := 0, locals := 25 } rLay rN D cA A [.ref (A 0), .long a1, .int a2] m (some (.int r)) m' := by
  refine met0_of (by decide) (Nat.le_of_ble_eq_true rfl) hI ?_
  intro p e s m0 below meth c ls X hinit hP hS hl
  generalize ([.ref (A 0), .long a1, .int a2] : List Value).toArray = args at X ⊢
  have hl : lv_has ls 5 [(0, .ref (A 0)), (1, .long a1), (3, .int a2)] := hl
  have X : CX rLay rN D cA A p s m0 args meth c "BenchTowelsModel" cX12_feed 5 (some .int) := X
  have hx := X.1
  have hb := X.2.1
  have hml := X.2.2.1
  have hown := X.2.2.2.1
  have hts := X.2.2.2.2.1
  have hF := X.2.2.2.2.2.2.2.2.1
  rewrite [fX12_feed] at h
  refine lv_iload_n hx hb dX12_feed_0 rfl (lv_at hl 2 rfl) ?_
  refine lv_i2l hx hb dX12_feed_1 rfl ?_
  refine lv_lconst (v := 1) hx hb dX12_feed_2 (by decide) ?_
  refine lv_ldc2 (v := 8) hx hb hown (hts _ wt_6_71) dX12_feed_3 ?_
  obtain ⟨r_1, m_2, hc_3, h⟩ := bd_some h
  refine c_S (rest := []) X hP hS (tX12_isIn hI  hc_3) wt_6_55 wt_6_56 wt_1_13 wt_6_57 hy_X12_isIn ⟨rfl, rfl⟩ ⟨Nat.le_of_ble_eq_true rfl, Nat.le_of_ble_eq_true rfl⟩ rfl hl.1 rfl (Nat.le_of_ble_eq_true rfl) dX12_feed_6 rfl (fun H locs hP hS => ?_)
  refine lv_if_ne (tgt := 14) hx hb dX12_feed_9 (by decide) (fun c_4 => ?_) (fun c_4 => ?_)
  · have h := ifn c_4 h
    refine lv_aload_n hx hb dX12_feed_14 rfl (lv_at hl 0 rfl) ?_
    refine r_get kc_12 5 X hP (by decide) (L_ref _) (by decide) rfl wt_5_177 dX12_feed_15 ?_
    refine lv_iload_n hx hb dX12_feed_18 rfl (lv_at hl 2 rfl) ?_
    refine lv_iadd hx hb dX12_feed_19 ?_
    refine lv_sipush (v := 200) hx hb dX12_feed_20 (by decide) ?_
    refine lv_icmp_le (tgt := 29) hx hb dX12_feed_23 (by decide) (fun c_5 => ?_) (fun c_5 => ?_)
    · have h := ifp c_5 h
      refine lv_iconst (v := 0) hx hb dX12_feed_29 (by decide) ?_
      refine lv_istore (lv' := [(4, .int 0), (0, .ref (A 0)), (1, .long a1), (3, .int a2)]) hx hb dX12_feed_30 hl (by decide) rfl (fun ls hl => ?_)
      exact tX12_feed_32 hI    X FL a1 a2 0 m_2 _ _ _  h hP hS (lv_sub hl [1, 2, 3, 0] rfl)
    · have h := ifn c_5 h
      refine lv_bipush (v := (-2)) hx hb dX12_feed_26 (by decide) ?_
      exact r_iret X hP hS dX12_feed_28 h
  · have h := ifp c_4 h
    refine lv_iconst (v := (-1)) hx hb dX12_feed_12 (by decide) ?_
    exact r_iret X hP hS dX12_feed_13 h

def fX12_isAlpha (a1 : Int32) (m : Mm) : Option (Int32 × Mm) := (if a1 < 97 then some (0, m) else (if (122 : Int32) < a1 then some (0, m) else some (1, m)))
set_option maxHeartbeats 4000000 in
set_option maxRecDepth 100000 in
theorem tX12_isAlpha {l : Launch} {D : va_G} {cA : Nat → ClassId} {A : Nat → Nat} (hI : InjA rN A) {a1 : Int32} {m m' : Mm} {r : Int32} (h : fX12_isAlpha a1 m = some (r, m')) : Met0 l yX12_isAlpha cX12_isAlpha 1 (some .boolean) { frames := 0, cells := 0, slots := 0, locals := 0 } rLay rN D cA A [.int a1] m (some (.int r)) m' := by
  refine met0_of (by decide) (Nat.le_of_ble_eq_true rfl) hI ?_
  intro p e s m0 below meth c ls X hinit hP hS hl
  generalize ([.int a1] : List Value).toArray = args at X ⊢
  have hl : lv_has ls 1 [(0, .int a1)] := hl
  have X : CX rLay rN D cA A p s m0 args meth c "BenchTowelsModel" cX12_isAlpha 1 (some .boolean) := X
  have hx := X.1
  have hb := X.2.1
  have hml := X.2.2.1
  have hown := X.2.2.2.1
  have hts := X.2.2.2.2.1
  have hF := X.2.2.2.2.2.2.2.2.1
  rewrite [fX12_isAlpha] at h
  refine lv_iload_n hx hb dX12_isAlpha_0 rfl (lv_at hl 0 rfl) ?_
  refine lv_bipush (v := 97) hx hb dX12_isAlpha_1 (by decide) ?_
  refine lv_icmp_lt (tgt := 16) hx hb dX12_isAlpha_3 (by decide) (fun c_1 => ?_) (fun c_1 => ?_)
  · have h := ifp c_1 h
    refine lv_iconst (v := 0) hx hb dX12_isAlpha_16 (by decide) ?_
    exact r_zret X (Or.inl rfl) hP hS dX12_isAlpha_17 h
  · have h := ifn c_1 h
    refine lv_iload_n hx hb dX12_isAlpha_6 rfl (lv_at hl 0 rfl) ?_
    refine lv_bipush (v := 122) hx hb dX12_isAlpha_7 (by decide) ?_
    refine lv_icmp_gt (tgt := 16) hx hb dX12_isAlpha_9 (by decide) (fun c_2 => ?_) (fun c_2 => ?_)
    · have h := ifp c_2 h
      refine lv_iconst (v := 0) hx hb dX12_isAlpha_16 (by decide) ?_
      exact r_zret X (Or.inl rfl) hP hS dX12_isAlpha_17 h
    · have h := ifn c_2 h
      refine lv_iconst (v := 1) hx hb dX12_isAlpha_12 (by decide) ?_
      refine lv_goto (tgt := 17) hx hb dX12_isAlpha_13 (by decide) ?_
      exact r_zret X (Or.inr rfl) hP hS dX12_isAlpha_17 h

def fX12_isDigit (a1 : Int32) (m : Mm) : Option (Int32 × Mm) := (if a1 < 48 then some (0, m) else (if (57 : Int32) < a1 then some (0, m) else some (1, m)))
set_option maxHeartbeats 4000000 in
set_option maxRecDepth 100000 in
theorem tX12_isDigit {l : Launch} {D : va_G} {cA : Nat → ClassId} {A : Nat → Nat} (hI : InjA rN A) {a1 : Int32} {m m' : Mm} {r : Int32} (h : fX12_isDigit a1 m = some (r, m')) : Met0 l yX12_isDigit cX12_isDigit 1 (some .boolean) { frames := 0, cells := 0, slots := 0, locals := 0 } rLay rN D cA A [.int a1] m (some (.int r)) m' := by
  refine met0_of (by decide) (Nat.le_of_ble_eq_true rfl) hI ?_
  intro p e s m0 below meth c ls X hinit hP hS hl
  generalize ([.int a1] : List Value).toArray = args at X ⊢
  have hl : lv_has ls 1 [(0, .int a1)] := hl
  have X : CX rLay rN D cA A p s m0 args meth c "BenchTowelsModel" cX12_isDigit 1 (some .boolean) := X
  have hx := X.1
  have hb := X.2.1
  have hml := X.2.2.1
  have hown := X.2.2.2.1
  have hts := X.2.2.2.2.1
  have hF := X.2.2.2.2.2.2.2.2.1
  rewrite [fX12_isDigit] at h
  refine lv_iload_n hx hb dX12_isDigit_0 rfl (lv_at hl 0 rfl) ?_
  refine lv_bipush (v := 48) hx hb dX12_isDigit_1 (by decide) ?_
  refine lv_icmp_lt (tgt := 16) hx hb dX12_isDigit_3 (by decide) (fun c_1 => ?_) (fun c_1 => ?_)
  · have h := ifp c_1 h
    refine lv_iconst (v := 0) hx hb dX12_isDigit_16 (by decide) ?_
    exact r_zret X (Or.inl rfl) hP hS dX12_isDigit_17 h
  · have h := ifn c_1 h
    refine lv_iload_n hx hb dX12_isDigit_6 rfl (lv_at hl 0 rfl) ?_
    refine lv_bipush (v := 57) hx hb dX12_isDigit_7 (by decide) ?_
    refine lv_icmp_gt (tgt := 16) hx hb dX12_isDigit_9 (by decide) (fun c_2 => ?_) (fun c_2 => ?_)
    · have h := ifp c_2 h
      refine lv_iconst (v := 0) hx hb dX12_isDigit_16 (by decide) ?_
      exact r_zret X (Or.inl rfl) hP hS dX12_isDigit_17 h
    · have h := ifn c_2 h
      refine lv_iconst (v := 1) hx hb dX12_isDigit_12 (by decide) ?_
      refine lv_goto (tgt := 17) hx hb dX12_isDigit_13 (by decide) ?_
      exact r_zret X (Or.inr rfl) hP hS dX12_isDigit_17 h

def fX12_byteAt (a1 : Int32) (m : Mm) : Option (Int32 × Mm) := (if ((m 0 5) : Int32) ≤ a1 then some ((-1), m) else gx a1 200 (some ((m 4 (ix a1)), m)))
set_option maxHeartbeats 4000000 in
set_option maxRecDepth 100000 in
theorem tX12_byteAt {l : Launch} {D : va_G} {cA : Nat → ClassId} {A : Nat → Nat} (hI : InjA rN A) {a1 : Int32} {m m' : Mm} {r : Int32} (h : fX12_byteAt a1 m = some (r, m')) : Met0 l yX12_byteAt cX12_byteAt 2 (some .int) { frames := 0, cells := 0, slots := 0, locals := 0 } rLay rN D cA A [.ref (A 0), .int a1] m (some (.int r)) m' := by
  refine met0_of (by decide) (Nat.le_of_ble_eq_true rfl) hI ?_
  intro p e s m0 below meth c ls X hinit hP hS hl
  generalize ([.ref (A 0), .int a1] : List Value).toArray = args at X ⊢
  have hl : lv_has ls 2 [(0, .ref (A 0)), (1, .int a1)] := hl
  have X : CX rLay rN D cA A p s m0 args meth c "BenchTowelsModel" cX12_byteAt 2 (some .int) := X
  have hx := X.1
  have hb := X.2.1
  have hml := X.2.2.1
  have hown := X.2.2.2.1
  have hts := X.2.2.2.2.1
  have hF := X.2.2.2.2.2.2.2.2.1
  rewrite [fX12_byteAt] at h
  refine lv_iload_n hx hb dX12_byteAt_0 rfl (lv_at hl 1 rfl) ?_
  refine lv_aload_n hx hb dX12_byteAt_1 rfl (lv_at hl 0 rfl) ?_
  refine r_get kc_12 5 X hP (by decide) (L_ref _) (by decide) rfl wt_5_177 dX12_byteAt_2 ?_
  refine lv_icmp_ge (tgt := 17) hx hb dX12_byteAt_5 (by decide) (fun c_1 => ?_) (fun c_1 => ?_)
  · have h := ifp c_1 h
    refine lv_iconst (v := (-1)) hx hb dX12_byteAt_17 (by decide) ?_
    exact r_iret X hP hS dX12_byteAt_18 h
  · have h := ifn c_1 h
    refine lv_aload_n hx hb dX12_byteAt_8 rfl (lv_at hl 0 rfl) ?_
    refine r_get kc_12 4 X hP (by decide) (L_ref _) (by decide) rfl wt_5_176 dX12_byteAt_9 ?_
    refine lv_iload_n hx hb dX12_byteAt_12 rfl (lv_at hl 1 rfl) ?_
    obtain ⟨hin_2, h⟩ := gx_some h
    refine r_iald X hP (by decide) (Lr_4 _) hin_2 rfl dX12_byteAt_13 ?_
    refine lv_goto (tgt := 18) hx hb dX12_byteAt_14 (by decide) ?_
    exact r_iret X hP hS dX12_byteAt_18 h

def fX12_nextToken_201   (m : Mm) : Option (Int32 × Mm) := (if (m 0 6) ≤ 2 then lt (up m 0 8 ((m 0 8) + 0)) fun m_28 => some (0, m_28) else lt (up m 0 8 ((m 0 8) + 1)) fun m_30 => some (0, m_30))
set_option maxHeartbeats 4000000 in
set_option maxRecDepth 100000 in
theorem tX12_nextToken_201 (hI : InjA rN A)  {r : Int32} {m' : Mm} (X : CX rLay rN D cA A p s m0 args meth c "BenchTowelsModel" cX12_nextToken 2 none) : ∀  (m : Mm) (H : Heap) (locs : List Loc) (ls : Array Slot), fX12_nextToken_201  m = some (r, m') → va_P D vwCl (wsOf rLay rN cA A m) H → va_S (AW rN A) s.heap H locs → lv_has ls 2 [(0, .ref (A 0))] → W p l e { frames := 1, cells := 0, slots := 0, locals := 21 } s m0 args below meth c H locs 0 0 (ZR below args s rLay rN D cA A none m') (F0 m0 201 ls []) := by
  have hx := X.1
  have hb := X.2.1
  have hml := X.2.2.1
  have hown := X.2.2.2.1
  have hts := X.2.2.2.2.1
  have hF := X.2.2.2.2.2.2.2.2.1
  intro m H locs ls h hP hS hl
  rewrite [fX12_nextToken_201] at h
  refine lv_aload_n hx hb dX12_nextToken_201 rfl (lv_at hl 0 rfl) ?_
  refine lv_dup hx hb dX12_nextToken_202 rfl ?_
  refine r_get kc_12 8 X hP (by decide) (L_ref _) (by decide) rfl wt_5_180 dX12_nextToken_203 ?_
  refine lv_aload_n hx hb dX12_nextToken_206 rfl (lv_at hl 0 rfl) ?_
  refine r_get kc_12 6 X hP (by decide) (L_ref _) (by decide) rfl wt_5_178 dX12_nextToken_207 ?_
  refine lv_iconst (v := 2) hx hb dX12_nextToken_210 (by decide) ?_
  refine lv_icmp_le (tgt := 218) hx hb dX12_nextToken_211 (by decide) (fun c_27 => ?_) (fun c_27 => ?_)
  · have h := ifp c_27 h
    refine lv_iconst (v := 0) hx hb dX12_nextToken_218 (by decide) ?_
    refine lv_iadd hx hb dX12_nextToken_219 ?_
    obtain ⟨m_28, em_29, h⟩ := lt_some h
    refine r_put kc_12 8 X hP hS (by decide) (L_ref _) (L_ref _) (by decide) wt_5_180 rfl (by decide +kernel) (Nat.le_of_ble_eq_true rfl) dX12_nextToken_220 em_29 (fun H locs hP hS => ?_)
    exact r_vret X hP hS dX12_nextToken_223 h
  · have h := ifn c_27 h
    refine lv_iconst (v := 1) hx hb dX12_nextToken_214 (by decide) ?_
    refine lv_goto (tgt := 219) hx hb dX12_nextToken_215 (by decide) ?_
    refine lv_iadd hx hb dX12_nextToken_219 ?_
    obtain ⟨m_30, em_31, h⟩ := lt_some h
    refine r_put kc_12 8 X hP hS (by decide) (L_ref _) (L_ref _) (by decide) wt_5_180 rfl (by decide +kernel) (Nat.le_of_ble_eq_true rfl) dX12_nextToken_220 em_31 (fun H locs hP hS => ?_)
    exact r_vret X hP hS dX12_nextToken_223 h

def fX12_nextToken_185 (K126 : Mm → Option (Int32 × Mm)) (s0 : Int32) (m : Mm) : Option (Int32 × Mm) := lt (up m 0 9 s0) fun m_43 => lt (up m_43 0 8 ((m_43 0 8) + 1)) fun m_45 => (K126 m_45)
set_option maxHeartbeats 4000000 in
set_option maxRecDepth 100000 in
theorem tX12_nextToken_185 (hI : InjA rN A)  {r : Int32} {m' : Mm} {K126 : Mm → Option (Int32 × Mm)} (hK126 : ∀  (m : Mm) (H : Heap) (locs : List Loc) (ls : Array Slot), K126  m = some (r, m') → va_P D vwCl (wsOf rLay rN cA A m) H → va_S (AW rN A) s.heap H locs → lv_has ls 2 [(0, .ref (A 0))] → W p l e { frames := 1, cells := 0, slots := 0, locals := 21 } s m0 args below meth c H locs 0 0 (ZR below args s rLay rN D cA A none m') (F0 m0 126 ls [])) (X : CX rLay rN D cA A p s m0 args meth c "BenchTowelsModel" cX12_nextToken 2 none) : ∀ (s0 : Int32) (m : Mm) (H : Heap) (locs : List Loc) (ls : Array Slot), fX12_nextToken_185 K126 s0 m = some (r, m') → va_P D vwCl (wsOf rLay rN cA A m) H → va_S (AW rN A) s.heap H locs → lv_has ls 2 [(0, .ref (A 0))] → W p l e { frames := 1, cells := 0, slots := 0, locals := 21 } s m0 args below meth c H locs 0 0 (ZR below args s rLay rN D cA A none m') (F0 m0 185 ls [.int s0, .ref (A 0)]) := by
  have hx := X.1
  have hb := X.2.1
  have hml := X.2.2.1
  have hown := X.2.2.2.1
  have hts := X.2.2.2.2.1
  have hF := X.2.2.2.2.2.2.2.2.1
  intro s0 m H locs ls h hP hS hl
  rewrite [fX12_nextToken_185] at h
  obtain ⟨m_43, em_44, h⟩ := lt_some h
  refine r_put kc_12 9 X hP hS (by decide) (L_ref _) (L_ref _) (by decide) wt_5_181 rfl (by decide +kernel) (Nat.le_of_ble_eq_true rfl) dX12_nextToken_185 em_44 (fun H locs hP hS => ?_)
  refine lv_aload_n hx hb dX12_nextToken_188 rfl (lv_at hl 0 rfl) ?_
  refine lv_dup hx hb dX12_nextToken_189 rfl ?_
  refine r_get kc_12 8 X hP (by decide) (L_ref _) (by decide) rfl wt_5_180 dX12_nextToken_190 ?_
  refine lv_iconst (v := 1) hx hb dX12_nextToken_193 (by decide) ?_
  refine lv_iadd hx hb dX12_nextToken_194 ?_
  obtain ⟨m_45, em_46, h⟩ := lt_some h
  refine r_put kc_12 8 X hP hS (by decide) (L_ref _) (L_ref _) (by decide) wt_5_180 rfl (by decide +kernel) (Nat.le_of_ble_eq_true rfl) dX12_nextToken_195 em_46 (fun H locs hP hS => ?_)
  refine lv_goto (tgt := 126) hx hb dX12_nextToken_198 (by decide) ?_
  exact hK126 m_45 _ _ _ h hP hS (lv_sub hl [0] rfl)

def fX12_nextToken_126  : Nat → Mm → Option (Int32 × Mm)
  | 0, _ => none
  | n + 1, m => (if (m 0 6) = 2 then bd (fX12_byteAt (m 0 8) m) fun r_32 m_33 => bd (fX12_isDigit r_32 m_33) fun r_35 m_36 => (if r_35 = 0 then fX12_nextToken_201  m_36 else (if (m_36 0 9) ≤ 9999 then bd (fX12_byteAt (m_36 0 8) m_36) fun r_40 m_41 => (fX12_nextToken_185 (fun  m => fX12_nextToken_126 n  m) ((((10 : Int32) * (m_36 0 9)) + r_40) - 48) m_41) else (fX12_nextToken_185 (fun  m => fX12_nextToken_126 n  m) (m_36 0 9) m_36))) else fX12_nextToken_201  m)
set_option maxHeartbeats 4000000 in
set_option maxRecDepth 100000 in
theorem tX12_nextToken_126 (hI : InjA rN A)  {r : Int32} {m' : Mm} (X : CX rLay rN D cA A p s m0 args meth c "BenchTowelsModel" cX12_nextToken 2 none) : ∀ (n : Nat)  (m : Mm) (H : Heap) (locs : List Loc) (ls : Array Slot), fX12_nextToken_126 n  m = some (r, m') → va_P D vwCl (wsOf rLay rN cA A m) H → va_S (AW rN A) s.heap H locs → lv_has ls 2 [(0, .ref (A 0))] → W p l e { frames := 1, cells := 0, slots := 0, locals := 21 } s m0 args below meth c H locs 0 0 (ZR below args s rLay rN D cA A none m') (F0 m0 126 ls []) := by
  have hx := X.1
  have hb := X.2.1
  have hml := X.2.2.1
  have hown := X.2.2.2.1
  have hts := X.2.2.2.2.1
  have hF := X.2.2.2.2.2.2.2.2.1
  intro n
  induction n with
  | zero =>
    intro m H locs ls h hP hS hl
    exact absurd h (by rewrite [fX12_nextToken_126]; exact fun q => by cases q)
  | succ n ih =>
    intro m H locs ls h hP hS hl
    rewrite [fX12_nextToken_126] at h
    refine lv_aload_n hx hb dX12_nextToken_126 rfl (lv_at hl 0 rfl) ?_
    refine r_get kc_12 6 X hP (by decide) (L_ref _) (by decide) rfl wt_5_178 dX12_nextToken_127 ?_
    refine lv_iconst (v := 2) hx hb dX12_nextToken_130 (by decide) ?_
    refine lv_icmp_ne (tgt := 201) hx hb dX12_nextToken_131 (by decide) (fun c_26 => ?_) (fun c_26 => ?_)
    · have h := ifn c_26 h
      exact tX12_nextToken_201 hI    X m _ _ _  h hP hS (lv_sub hl [0] rfl)
    · have h := ifp c_26 h
      refine lv_aload_n hx hb dX12_nextToken_134 rfl (lv_at hl 0 rfl) ?_
      refine lv_aload_n hx hb dX12_nextToken_135 rfl (lv_at hl 0 rfl) ?_
      refine r_get kc_12 8 X hP (by decide) (L_ref _) (by decide) rfl wt_5_180 dX12_nextToken_136 ?_
      obtain ⟨r_32, m_33, hc_34, h⟩ := bd_some h
      refine c_V (rest := []) X hP hS (tX12_byteAt hI  hc_34) (by decide) (L_ref _) rfl wt_6_168 wt_6_170 ws_3_5 wt_1_13 wt_6_171 ⟨rfl, hy_X12_byteAt⟩ ⟨rfl, rfl⟩ ⟨Nat.le_of_ble_eq_true rfl, Nat.le_of_ble_eq_true rfl⟩ rfl hl.1 rfl (Nat.le_of_ble_eq_true rfl) dX12_nextToken_139 rfl (fun H locs hP hS => ?_)
      obtain ⟨r_35, m_36, hc_37, h⟩ := bd_some h
      refine c_S (rest := []) X hP hS (tX12_isDigit hI  hc_37) wt_6_175 wt_6_176 wt_1_13 wt_6_177 hy_X12_isDigit ⟨rfl, rfl⟩ ⟨Nat.le_of_ble_eq_true rfl, Nat.le_of_ble_eq_true rfl⟩ rfl hl.1 rfl (Nat.le_of_ble_eq_true rfl) dX12_nextToken_142 rfl (fun H locs hP hS => ?_)
      refine lv_if_eq (tgt := 201) hx hb dX12_nextToken_145 (by decide) (fun c_38 => ?_) (fun c_38 => ?_)
      · have h := ifp c_38 h
        exact tX12_nextToken_201 hI    X m_36 _ _ _  h hP hS (lv_sub hl [0] rfl)
      · have h := ifn c_38 h
        refine lv_aload_n hx hb dX12_nextToken_148 rfl (lv_at hl 0 rfl) ?_
        refine lv_aload_n hx hb dX12_nextToken_149 rfl (lv_at hl 0 rfl) ?_
        refine r_get kc_12 9 X hP (by decide) (L_ref _) (by decide) rfl wt_5_181 dX12_nextToken_150 ?_
        refine lv_sipush (v := 9999) hx hb dX12_nextToken_153 (by decide) ?_
        refine lv_icmp_le (tgt := 166) hx hb dX12_nextToken_156 (by decide) (fun c_39 => ?_) (fun c_39 => ?_)
        · have h := ifp c_39 h
          refine lv_bipush (v := 10) hx hb dX12_nextToken_166 (by decide) ?_
          refine lv_aload_n hx hb dX12_nextToken_168 rfl (lv_at hl 0 rfl) ?_
          refine r_get kc_12 9 X hP (by decide) (L_ref _) (by decide) rfl wt_5_181 dX12_nextToken_169 ?_
          refine lv_imul hx hb dX12_nextToken_172 ?_
          refine lv_aload_n hx hb dX12_nextToken_173 rfl (lv_at hl 0 rfl) ?_
          refine lv_aload_n hx hb dX12_nextToken_174 rfl (lv_at hl 0 rfl) ?_
          refine r_get kc_12 8 X hP (by decide) (L_ref _) (by decide) rfl wt_5_180 dX12_nextToken_175 ?_
          obtain ⟨r_40, m_41, hc_42, h⟩ := bd_some h
          refine c_V (rest := [.int ((10 : Int32) * (m_36 0 9)), .ref (A 0)]) X hP hS (tX12_byteAt hI  hc_42) (by decide) (L_ref _) rfl wt_6_168 wt_6_170 ws_3_5 wt_1_13 wt_6_171 ⟨rfl, hy_X12_byteAt⟩ ⟨rfl, rfl⟩ ⟨Nat.le_of_ble_eq_true rfl, Nat.le_of_ble_eq_true rfl⟩ rfl hl.1 rfl (Nat.le_of_ble_eq_true rfl) dX12_nextToken_178 rfl (fun H locs hP hS => ?_)
          refine lv_iadd hx hb dX12_nextToken_181 ?_
          refine lv_bipush (v := 48) hx hb dX12_nextToken_182 (by decide) ?_
          refine lv_isub hx hb dX12_nextToken_184 ?_
          exact tX12_nextToken_185 hI   (fun  m H locs ls h hP hS hl => ih  m H locs ls  h hP hS hl) X ((((10 : Int32) * (m_36 0 9)) + r_40) - 48) m_41 _ _ _  h hP hS (lv_sub hl [0] rfl)
        · have h := ifn c_39 h
          refine lv_aload_n hx hb dX12_nextToken_159 rfl (lv_at hl 0 rfl) ?_
          refine r_get kc_12 9 X hP (by decide) (L_ref _) (by decide) rfl wt_5_181 dX12_nextToken_160 ?_
          refine lv_goto (tgt := 185) hx hb dX12_nextToken_163 (by decide) ?_
          exact tX12_nextToken_185 hI   (fun  m H locs ls h hP hS hl => ih  m H locs ls  h hP hS hl) X (m_36 0 9) m_36 _ _ _  h hP hS (lv_sub hl [0] rfl)

def fX12_nextToken_91  : Nat → Mm → Option (Int32 × Mm)
  | 0, _ => none
  | n + 1, m => (if (m 0 6) = 1 then bd (fX12_byteAt (m 0 8) m) fun r_47 m_48 => bd (fX12_isAlpha r_47 m_48) fun r_50 m_51 => (if r_50 = 0 then fX12_nextToken_126  FL m_51 else lt (up m_51 0 8 ((m_51 0 8) + 1)) fun m_54 => (fX12_nextToken_91 n m_54)) else fX12_nextToken_126  FL m)
set_option maxHeartbeats 4000000 in
set_option maxRecDepth 100000 in
theorem tX12_nextToken_91 (hI : InjA rN A)  {r : Int32} {m' : Mm} (X : CX rLay rN D cA A p s m0 args meth c "BenchTowelsModel" cX12_nextToken 2 none) : ∀ (n : Nat)  (m : Mm) (H : Heap) (locs : List Loc) (ls : Array Slot), fX12_nextToken_91 n  m = some (r, m') → va_P D vwCl (wsOf rLay rN cA A m) H → va_S (AW rN A) s.heap H locs → lv_has ls 2 [(0, .ref (A 0))] → W p l e { frames := 1, cells := 0, slots := 0, locals := 21 } s m0 args below meth c H locs 0 0 (ZR below args s rLay rN D cA A none m') (F0 m0 91 ls []) := by
  have hx := X.1
  have hb := X.2.1
  have hml := X.2.2.1
  have hown := X.2.2.2.1
  have hts := X.2.2.2.2.1
  have hF := X.2.2.2.2.2.2.2.2.1
  intro n
  induction n with
  | zero =>
    intro m H locs ls h hP hS hl
    exact absurd h (by rewrite [fX12_nextToken_91]; exact fun q => by cases q)
  | succ n ih =>
    intro m H locs ls h hP hS hl
    rewrite [fX12_nextToken_91] at h
    refine lv_aload_n hx hb dX12_nextToken_91 rfl (lv_at hl 0 rfl) ?_
    refine r_get kc_12 6 X hP (by decide) (L_ref _) (by decide) rfl wt_5_178 dX12_nextToken_92 ?_
    refine lv_iconst (v := 1) hx hb dX12_nextToken_95 (by decide) ?_
    refine lv_icmp_ne (tgt := 126) hx hb dX12_nextToken_96 (by decide) (fun c_25 => ?_) (fun c_25 => ?_)
    · have h := ifn c_25 h
      exact tX12_nextToken_126 hI    X FL m _ _ _  h hP hS (lv_sub hl [0] rfl)
    · have h := ifp c_25 h
      refine lv_aload_n hx hb dX12_nextToken_99 rfl (lv_at hl 0 rfl) ?_
      refine lv_aload_n hx hb dX12_nextToken_100 rfl (lv_at hl 0 rfl) ?_
      refine r_get kc_12 8 X hP (by decide) (L_ref _) (by decide) rfl wt_5_180 dX12_nextToken_101 ?_
      obtain ⟨r_47, m_48, hc_49, h⟩ := bd_some h
      refine c_V (rest := []) X hP hS (tX12_byteAt hI  hc_49) (by decide) (L_ref _) rfl wt_6_168 wt_6_170 ws_3_5 wt_1_13 wt_6_171 ⟨rfl, hy_X12_byteAt⟩ ⟨rfl, rfl⟩ ⟨Nat.le_of_ble_eq_true rfl, Nat.le_of_ble_eq_true rfl⟩ rfl hl.1 rfl (Nat.le_of_ble_eq_true rfl) dX12_nextToken_104 rfl (fun H locs hP hS => ?_)
      obtain ⟨r_50, m_51, hc_52, h⟩ := bd_some h
      refine c_S (rest := []) X hP hS (tX12_isAlpha hI  hc_52) wt_6_172 wt_6_173 wt_1_13 wt_6_174 hy_X12_isAlpha ⟨rfl, rfl⟩ ⟨Nat.le_of_ble_eq_true rfl, Nat.le_of_ble_eq_true rfl⟩ rfl hl.1 rfl (Nat.le_of_ble_eq_true rfl) dX12_nextToken_107 rfl (fun H locs hP hS => ?_)
      refine lv_if_eq (tgt := 126) hx hb dX12_nextToken_110 (by decide) (fun c_53 => ?_) (fun c_53 => ?_)
      · have h := ifp c_53 h
        exact tX12_nextToken_126 hI    X FL m_51 _ _ _  h hP hS (lv_sub hl [0] rfl)
      · have h := ifn c_53 h
        refine lv_aload_n hx hb dX12_nextToken_113 rfl (lv_at hl 0 rfl) ?_
        refine lv_dup hx hb dX12_nextToken_114 rfl ?_
        refine r_get kc_12 8 X hP (by decide) (L_ref _) (by decide) rfl wt_5_180 dX12_nextToken_115 ?_
        refine lv_iconst (v := 1) hx hb dX12_nextToken_118 (by decide) ?_
        refine lv_iadd hx hb dX12_nextToken_119 ?_
        obtain ⟨m_54, em_55, h⟩ := lt_some h
        refine r_put kc_12 8 X hP hS (by decide) (L_ref _) (L_ref _) (by decide) wt_5_180 rfl (by decide +kernel) (Nat.le_of_ble_eq_true rfl) dX12_nextToken_120 em_55 (fun H locs hP hS => ?_)
        refine lv_goto (tgt := 91) hx hb dX12_nextToken_123 (by decide) ?_
        exact ih m_54 _ _ _  h hP hS (lv_sub hl [0] rfl)

def fX12_nextToken_8  : Nat → Mm → Option (Int32 × Mm)
  | 0, _ => none
  | n + 1, m => bd (fX12_byteAt (m 0 7) m) fun r_3 m_4 => (if r_3 = 32 then lt (up m_4 0 7 ((m_4 0 7) + 1)) fun m_68 => (fX12_nextToken_8 n m_68) else lt (up m_4 0 8 (m_4 0 7)) fun m_7 => bd (fX12_byteAt (m_7 0 7) m_7) fun r_9 m_10 => (if (0 : Int32) ≤ r_9 then bd (fX12_isAlpha r_9 m_10) fun r_13 m_14 => (if r_13 = 0 then bd (fX12_isDigit r_9 m_14) fun r_17 m_18 => (if r_17 = 0 then lt (up m_18 0 6 3) fun m_21 => lt (up m_21 0 9 0) fun m_23 => (fX12_nextToken_91  FL m_23) else lt (up m_18 0 6 2) fun m_56 => lt (up m_56 0 9 0) fun m_58 => (fX12_nextToken_91  FL m_58)) else lt (up m_14 0 6 1) fun m_60 => lt (up m_60 0 9 0) fun m_62 => (fX12_nextToken_91  FL m_62)) else lt (up m_10 0 6 0) fun m_64 => lt (up m_64 0 9 0) fun m_66 => (fX12_nextToken_91  FL m_66)))
set_option maxHeartbeats 4000000 in
set_option maxRecDepth 100000 in
theorem tX12_nextToken_8 (hI : InjA rN A)  {r : Int32} {m' : Mm} (X : CX rLay rN D cA A p s m0 args meth c "BenchTowelsModel" cX12_nextToken 2 none) : ∀ (n : Nat)  (m : Mm) (H : Heap) (locs : List Loc) (ls : Array Slot), fX12_nextToken_8 n  m = some (r, m') → va_P D vwCl (wsOf rLay rN cA A m) H → va_S (AW rN A) s.heap H locs → lv_has ls 2 [(0, .ref (A 0))] → W p l e { frames := 1, cells := 0, slots := 0, locals := 21 } s m0 args below meth c H locs 0 0 (ZR below args s rLay rN D cA A none m') (F0 m0 8 ls []) := by
  have hx := X.1
  have hb := X.2.1
  have hml := X.2.2.1
  have hown := X.2.2.2.1
  have hts := X.2.2.2.2.1
  have hF := X.2.2.2.2.2.2.2.2.1
  intro n
  induction n with
  | zero =>
    intro m H locs ls h hP hS hl
    exact absurd h (by rewrite [fX12_nextToken_8]; exact fun q => by cases q)
  | succ n ih =>
    intro m H locs ls h hP hS hl
    rewrite [fX12_nextToken_8] at h
    refine lv_aload_n hx hb dX12_nextToken_8 rfl (lv_at hl 0 rfl) ?_
    refine lv_aload_n hx hb dX12_nextToken_9 rfl (lv_at hl 0 rfl) ?_
    refine r_get kc_12 7 X hP (by decide) (L_ref _) (by decide) rfl wt_5_179 dX12_nextToken_10 ?_
    obtain ⟨r_3, m_4, hc_5, h⟩ := bd_some h
    refine c_V (rest := []) X hP hS (tX12_byteAt hI  hc_5) (by decide) (L_ref _) rfl wt_6_168 wt_6_170 ws_3_5 wt_1_13 wt_6_171 ⟨rfl, hy_X12_byteAt⟩ ⟨rfl, rfl⟩ ⟨Nat.le_of_ble_eq_true rfl, Nat.le_of_ble_eq_true rfl⟩ rfl hl.1 rfl (Nat.le_of_ble_eq_true rfl) dX12_nextToken_13 rfl (fun H locs hP hS => ?_)
    refine lv_bipush (v := 32) hx hb dX12_nextToken_16 (by decide) ?_
    refine lv_icmp_ne (tgt := 34) hx hb dX12_nextToken_18 (by decide) (fun c_6 => ?_) (fun c_6 => ?_)
    · have h := ifn c_6 h
      refine lv_aload_n hx hb dX12_nextToken_34 rfl (lv_at hl 0 rfl) ?_
      refine lv_aload_n hx hb dX12_nextToken_35 rfl (lv_at hl 0 rfl) ?_
      refine r_get kc_12 7 X hP (by decide) (L_ref _) (by decide) rfl wt_5_179 dX12_nextToken_36 ?_
      obtain ⟨m_7, em_8, h⟩ := lt_some h
      refine r_put kc_12 8 X hP hS (by decide) (L_ref _) (L_ref _) (by decide) wt_5_180 rfl (by decide +kernel) (Nat.le_of_ble_eq_true rfl) dX12_nextToken_39 em_8 (fun H locs hP hS => ?_)
      refine lv_aload_n hx hb dX12_nextToken_42 rfl (lv_at hl 0 rfl) ?_
      refine lv_aload_n hx hb dX12_nextToken_43 rfl (lv_at hl 0 rfl) ?_
      refine r_get kc_12 7 X hP (by decide) (L_ref _) (by decide) rfl wt_5_179 dX12_nextToken_44 ?_
      obtain ⟨r_9, m_10, hc_11, h⟩ := bd_some h
      refine c_V (rest := []) X hP hS (tX12_byteAt hI  hc_11) (by decide) (L_ref _) rfl wt_6_168 wt_6_170 ws_3_5 wt_1_13 wt_6_171 ⟨rfl, hy_X12_byteAt⟩ ⟨rfl, rfl⟩ ⟨Nat.le_of_ble_eq_true rfl, Nat.le_of_ble_eq_true rfl⟩ rfl hl.1 rfl (Nat.le_of_ble_eq_true rfl) dX12_nextToken_47 rfl (fun H locs hP hS => ?_)
      refine lv_istore_n (lv' := [(1, .int r_9), (0, .ref (A 0))]) hx hb dX12_nextToken_50 rfl hl (by decide) rfl (fun ls hl => ?_)
      refine lv_aload_n hx hb dX12_nextToken_51 rfl (lv_at hl 1 rfl) ?_
      refine lv_iload_n hx hb dX12_nextToken_52 rfl (lv_at hl 0 rfl) ?_
      refine lv_if_ge (tgt := 60) hx hb dX12_nextToken_53 (by decide) (fun c_12 => ?_) (fun c_12 => ?_)
      · have h := ifp c_12 h
        refine lv_iload_n hx hb dX12_nextToken_60 rfl (lv_at hl 0 rfl) ?_
        obtain ⟨r_13, m_14, hc_15, h⟩ := bd_some h
        refine c_S (rest := [.ref (A 0)]) X hP hS (tX12_isAlpha hI  hc_15) wt_6_172 wt_6_173 wt_1_13 wt_6_174 hy_X12_isAlpha ⟨rfl, rfl⟩ ⟨Nat.le_of_ble_eq_true rfl, Nat.le_of_ble_eq_true rfl⟩ rfl hl.1 rfl (Nat.le_of_ble_eq_true rfl) dX12_nextToken_61 rfl (fun H locs hP hS => ?_)
        refine lv_if_eq (tgt := 71) hx hb dX12_nextToken_64 (by decide) (fun c_16 => ?_) (fun c_16 => ?_)
        · have h := ifp c_16 h
          refine lv_iload_n hx hb dX12_nextToken_71 rfl (lv_at hl 0 rfl) ?_
          obtain ⟨r_17, m_18, hc_19, h⟩ := bd_some h
          refine c_S (rest := [.ref (A 0)]) X hP hS (tX12_isDigit hI  hc_19) wt_6_175 wt_6_176 wt_1_13 wt_6_177 hy_X12_isDigit ⟨rfl, rfl⟩ ⟨Nat.le_of_ble_eq_true rfl, Nat.le_of_ble_eq_true rfl⟩ rfl hl.1 rfl (Nat.le_of_ble_eq_true rfl) dX12_nextToken_72 rfl (fun H locs hP hS => ?_)
          refine lv_if_eq (tgt := 82) hx hb dX12_nextToken_75 (by decide) (fun c_20 => ?_) (fun c_20 => ?_)
          · have h := ifp c_20 h
            refine lv_iconst (v := 3) hx hb dX12_nextToken_82 (by decide) ?_
            obtain ⟨m_21, em_22, h⟩ := lt_some h
            refine r_put kc_12 6 X hP hS (by decide) (L_ref _) (L_ref _) (by decide) wt_5_178 rfl (by decide +kernel) (Nat.le_of_ble_eq_true rfl) dX12_nextToken_83 em_22 (fun H locs hP hS => ?_)
            refine lv_aload_n hx hb dX12_nextToken_86 rfl (lv_at hl 1 rfl) ?_
            refine lv_iconst (v := 0) hx hb dX12_nextToken_87 (by decide) ?_
            obtain ⟨m_23, em_24, h⟩ := lt_some h
            refine r_put kc_12 9 X hP hS (by decide) (L_ref _) (L_ref _) (by decide) wt_5_181 rfl (by decide +kernel) (Nat.le_of_ble_eq_true rfl) dX12_nextToken_88 em_24 (fun H locs hP hS => ?_)
            exact tX12_nextToken_91 hI    X FL m_23 _ _ _  h hP hS (lv_sub hl [1] rfl)
          · have h := ifn c_20 h
            refine lv_iconst (v := 2) hx hb dX12_nextToken_78 (by decide) ?_
            refine lv_goto (tgt := 83) hx hb dX12_nextToken_79 (by decide) ?_
            obtain ⟨m_56, em_57, h⟩ := lt_some h
            refine r_put kc_12 6 X hP hS (by decide) (L_ref _) (L_ref _) (by decide) wt_5_178 rfl (by decide +kernel) (Nat.le_of_ble_eq_true rfl) dX12_nextToken_83 em_57 (fun H locs hP hS => ?_)
            refine lv_aload_n hx hb dX12_nextToken_86 rfl (lv_at hl 1 rfl) ?_
            refine lv_iconst (v := 0) hx hb dX12_nextToken_87 (by decide) ?_
            obtain ⟨m_58, em_59, h⟩ := lt_some h
            refine r_put kc_12 9 X hP hS (by decide) (L_ref _) (L_ref _) (by decide) wt_5_181 rfl (by decide +kernel) (Nat.le_of_ble_eq_true rfl) dX12_nextToken_88 em_59 (fun H locs hP hS => ?_)
            exact tX12_nextToken_91 hI    X FL m_58 _ _ _  h hP hS (lv_sub hl [1] rfl)
        · have h := ifn c_16 h
          refine lv_iconst (v := 1) hx hb dX12_nextToken_67 (by decide) ?_
          refine lv_goto (tgt := 83) hx hb dX12_nextToken_68 (by decide) ?_
          obtain ⟨m_60, em_61, h⟩ := lt_some h
          refine r_put kc_12 6 X hP hS (by decide) (L_ref _) (L_ref _) (by decide) wt_5_178 rfl (by decide +kernel) (Nat.le_of_ble_eq_true rfl) dX12_nextToken_83 em_61 (fun H locs hP hS => ?_)
          refine lv_aload_n hx hb dX12_nextToken_86 rfl (lv_at hl 1 rfl) ?_
          refine lv_iconst (v := 0) hx hb dX12_nextToken_87 (by decide) ?_
          obtain ⟨m_62, em_63, h⟩ := lt_some h
          refine r_put kc_12 9 X hP hS (by decide) (L_ref _) (L_ref _) (by decide) wt_5_181 rfl (by decide +kernel) (Nat.le_of_ble_eq_true rfl) dX12_nextToken_88 em_63 (fun H locs hP hS => ?_)
          exact tX12_nextToken_91 hI    X FL m_62 _ _ _  h hP hS (lv_sub hl [1] rfl)
      · have h := ifn c_12 h
        refine lv_iconst (v := 0) hx hb dX12_nextToken_56 (by decide) ?_
        refine lv_goto (tgt := 83) hx hb dX12_nextToken_57 (by decide) ?_
        obtain ⟨m_64, em_65, h⟩ := lt_some h
        refine r_put kc_12 6 X hP hS (by decide) (L_ref _) (L_ref _) (by decide) wt_5_178 rfl (by decide +kernel) (Nat.le_of_ble_eq_true rfl) dX12_nextToken_83 em_65 (fun H locs hP hS => ?_)
        refine lv_aload_n hx hb dX12_nextToken_86 rfl (lv_at hl 1 rfl) ?_
        refine lv_iconst (v := 0) hx hb dX12_nextToken_87 (by decide) ?_
        obtain ⟨m_66, em_67, h⟩ := lt_some h
        refine r_put kc_12 9 X hP hS (by decide) (L_ref _) (L_ref _) (by decide) wt_5_181 rfl (by decide +kernel) (Nat.le_of_ble_eq_true rfl) dX12_nextToken_88 em_67 (fun H locs hP hS => ?_)
        exact tX12_nextToken_91 hI    X FL m_66 _ _ _  h hP hS (lv_sub hl [1] rfl)
    · have h := ifp c_6 h
      refine lv_aload_n hx hb dX12_nextToken_21 rfl (lv_at hl 0 rfl) ?_
      refine lv_dup hx hb dX12_nextToken_22 rfl ?_
      refine r_get kc_12 7 X hP (by decide) (L_ref _) (by decide) rfl wt_5_179 dX12_nextToken_23 ?_
      refine lv_iconst (v := 1) hx hb dX12_nextToken_26 (by decide) ?_
      refine lv_iadd hx hb dX12_nextToken_27 ?_
      obtain ⟨m_68, em_69, h⟩ := lt_some h
      refine r_put kc_12 7 X hP hS (by decide) (L_ref _) (L_ref _) (by decide) wt_5_179 rfl (by decide +kernel) (Nat.le_of_ble_eq_true rfl) dX12_nextToken_28 em_69 (fun H locs hP hS => ?_)
      refine lv_goto (tgt := 8) hx hb dX12_nextToken_31 (by decide) ?_
      exact ih m_68 _ _ _  h hP hS (lv_sub hl [0] rfl)

def fX12_nextToken  (m : Mm) : Option (Int32 × Mm) := lt (up m 0 7 (m 0 8)) fun m_1 => (fX12_nextToken_8  FL m_1)
set_option maxHeartbeats 4000000 in
set_option maxRecDepth 100000 in
theorem tX12_nextToken {l : Launch} {D : va_G} {cA : Nat → ClassId} {A : Nat → Nat} (hI : InjA rN A) {m m' : Mm} {r : Int32} (h : fX12_nextToken m = some (r, m')) : Met0 l yX12_nextToken cX12_nextToken 2 none { frames := 1, cells := 0, slots := 0, locals := 21 } rLay rN D cA A [.ref (A 0)] m none m' := by
  refine met0_of (by decide) (Nat.le_of_ble_eq_true rfl) hI ?_
  intro p e s m0 below meth c ls X hinit hP hS hl
  generalize ([.ref (A 0)] : List Value).toArray = args at X ⊢
  have hl : lv_has ls 2 [(0, .ref (A 0))] := hl
  have X : CX rLay rN D cA A p s m0 args meth c "BenchTowelsModel" cX12_nextToken 2 none := X
  have hx := X.1
  have hb := X.2.1
  have hml := X.2.2.1
  have hown := X.2.2.2.1
  have hts := X.2.2.2.2.1
  have hF := X.2.2.2.2.2.2.2.2.1
  rewrite [fX12_nextToken] at h
  refine lv_aload_n hx hb dX12_nextToken_0 rfl (lv_at hl 0 rfl) ?_
  refine lv_aload_n hx hb dX12_nextToken_1 rfl (lv_at hl 0 rfl) ?_
  refine r_get kc_12 8 X hP (by decide) (L_ref _) (by decide) rfl wt_5_180 dX12_nextToken_2 ?_
  obtain ⟨m_1, em_2, h⟩ := lt_some h
  refine r_put kc_12 7 X hP hS (by decide) (L_ref _) (L_ref _) (by decide) wt_5_179 rfl (by decide +kernel) (Nat.le_of_ble_eq_true rfl) dX12_nextToken_5 em_2 (fun H locs hP hS => ?_)
  exact tX12_nextToken_8 hI    X FL m_1 _ _ _  h hP hS (lv_sub hl [0] rfl)

def fX12_needs_17  (s0 : Int32) (m : Mm) : Option (Int32 × Mm) := gb s0 (lt (up m 0 10 s0) fun m_3 => (if (m_3 0 10) = 0 then bd (fX12_nextToken m_3) fun r_6 m_7 => some (0, m_7) else some (0, m_3)))
set_option maxHeartbeats 4000000 in
set_option maxRecDepth 100000 in
theorem tX12_needs_17 (hI : InjA rN A)  {r : Int32} {m' : Mm} (X : CX rLay rN D cA A p s m0 args meth c "BenchTowelsModel" cX12_needs 2 none) : ∀ (s0 : Int32) (m : Mm) (H : Heap) (locs : List Loc) (ls : Array Slot), fX12_needs_17 s0 m = some (r, m') → va_P D vwCl (wsOf rLay rN cA A m) H → va_S (AW rN A) s.heap H locs → lv_has ls 2 [(0, .ref (A 0))] → W p l e { frames := 2, cells := 0, slots := 0, locals := 42 } s m0 args below meth c H locs 0 0 (ZR below args s rLay rN D cA A none m') (F0 m0 17 ls [.int s0, .ref (A 0)]) := by
  have hx := X.1
  have hb := X.2.1
  have hml := X.2.2.1
  have hown := X.2.2.2.1
  have hts := X.2.2.2.2.1
  have hF := X.2.2.2.2.2.2.2.2.1
  intro s0 m H locs ls h hP hS hl
  rewrite [fX12_needs_17] at h
  obtain ⟨hz_2, h⟩ := gb_some h
  obtain ⟨m_3, em_4, h⟩ := lt_some h
  refine r_putz kc_12 10 X hz_2 hP hS (by decide) (L_ref _) (L_ref _) (by decide) wt_5_182 rfl (by decide +kernel) (Nat.le_of_ble_eq_true rfl) dX12_needs_17 em_4 (fun H locs hP hS => ?_)
  refine lv_aload_n hx hb dX12_needs_20 rfl (lv_at hl 0 rfl) ?_
  refine r_get kc_12 10 X hP (by decide) (L_ref _) (by decide) rfl wt_5_182 dX12_needs_21 ?_
  refine lv_if_ne (tgt := 31) hx hb dX12_needs_24 (by decide) (fun c_5 => ?_) (fun c_5 => ?_)
  · have h := ifn c_5 h
    exact r_vret X hP hS dX12_needs_31 h
  · have h := ifp c_5 h
    refine lv_aload_n hx hb dX12_needs_27 rfl (lv_at hl 0 rfl) ?_
    obtain ⟨r_6, m_7, hc_8, h⟩ := bd_some h
    refine c_V (rest := []) X hP hS (tX12_nextToken hI  hc_8) (by decide) (L_ref _) rfl wt_6_164 wt_6_166 ws_3_4 wt_1_13 wt_6_167 ⟨rfl, hy_X12_nextToken⟩ ⟨rfl, rfl⟩ ⟨Nat.le_of_ble_eq_true rfl, Nat.le_of_ble_eq_true rfl⟩ rfl hl.1 rfl (Nat.le_of_ble_eq_true rfl) dX12_needs_28 rfl (fun H locs hP hS => ?_)
    exact r_vret X hP hS dX12_needs_31 h

def fX12_needs (a1 : Int32) (m : Mm) : Option (Int32 × Mm) := (if (m 0 10) = 0 then (if a1 = 0 then (fX12_needs_17  1 m) else (fX12_needs_17  0 m)) else (fX12_needs_17  1 m))
set_option maxHeartbeats 4000000 in
set_option maxRecDepth 100000 in
theorem tX12_needs {l : Launch} {D : va_G} {cA : Nat → ClassId} {A : Nat → Nat} (hI : InjA rN A) {a1 : Int32} {m m' : Mm} {r : Int32} (h : fX12_needs a1 m = some (r, m')) : Met0 l yX12_needs cX12_needs 2 none { frames := 2, cells := 0, slots := 0, locals := 42 } rLay rN D cA A [.ref (A 0), .int a1] m none m' := by
  refine met0_of (by decide) (Nat.le_of_ble_eq_true rfl) hI ?_
  intro p e s m0 below meth c ls X hinit hP hS hl
  generalize ([.ref (A 0), .int a1] : List Value).toArray = args at X ⊢
  have hl : lv_has ls 2 [(0, .ref (A 0)), (1, .int a1)] := hl
  have X : CX rLay rN D cA A p s m0 args meth c "BenchTowelsModel" cX12_needs 2 none := X
  have hx := X.1
  have hb := X.2.1
  have hml := X.2.2.1
  have hown := X.2.2.2.1
  have hts := X.2.2.2.2.1
  have hF := X.2.2.2.2.2.2.2.2.1
  rewrite [fX12_needs] at h
  refine lv_aload_n hx hb dX12_needs_0 rfl (lv_at hl 0 rfl) ?_
  refine lv_aload_n hx hb dX12_needs_1 rfl (lv_at hl 0 rfl) ?_
  refine r_get kc_12 10 X hP (by decide) (L_ref _) (by decide) rfl wt_5_182 dX12_needs_2 ?_
  refine lv_if_ne (tgt := 12) hx hb dX12_needs_5 (by decide) (fun c_1 => ?_) (fun c_1 => ?_)
  · have h := ifn c_1 h
    refine lv_iconst (v := 1) hx hb dX12_needs_12 (by decide) ?_
    refine lv_goto (tgt := 17) hx hb dX12_needs_13 (by decide) ?_
    exact tX12_needs_17 hI    X 1 m _ _ _  h hP hS (lv_sub hl [0] rfl)
  · have h := ifp c_1 h
    refine lv_iload_n hx hb dX12_needs_8 rfl (lv_at hl 1 rfl) ?_
    refine lv_if_ne (tgt := 16) hx hb dX12_needs_9 (by decide) (fun c_9 => ?_) (fun c_9 => ?_)
    · have h := ifn c_9 h
      refine lv_iconst (v := 0) hx hb dX12_needs_16 (by decide) ?_
      exact tX12_needs_17 hI    X 0 m _ _ _  h hP hS (lv_sub hl [0] rfl)
    · have h := ifp c_9 h
      refine lv_iconst (v := 1) hx hb dX12_needs_12 (by decide) ?_
      refine lv_goto (tgt := 17) hx hb dX12_needs_13 (by decide) ?_
      exact tX12_needs_17 hI    X 1 m _ _ _  h hP hS (lv_sub hl [0] rfl)

def fX12_isByte (a1 : Int32) (m : Mm) : Option (Int32 × Mm) := (if (m 0 6) = 3 then bd (fX12_byteAt (m 0 7) m) fun r_2 m_3 => (if r_2 = a1 then some (1, m_3) else some (0, m_3)) else some (0, m))
set_option maxHeartbeats 4000000 in
set_option maxRecDepth 100000 in
theorem tX12_isByte {l : Launch} {D : va_G} {cA : Nat → ClassId} {A : Nat → Nat} (hI : InjA rN A) {a1 : Int32} {m m' : Mm} {r : Int32} (h : fX12_isByte a1 m = some (r, m')) : Met0 l yX12_isByte cX12_isByte 2 (some .boolean) { frames := 1, cells := 0, slots := 0, locals := 21 } rLay rN D cA A [.ref (A 0), .int a1] m (some (.int r)) m' := by
  refine met0_of (by decide) (Nat.le_of_ble_eq_true rfl) hI ?_
  intro p e s m0 below meth c ls X hinit hP hS hl
  generalize ([.ref (A 0), .int a1] : List Value).toArray = args at X ⊢
  have hl : lv_has ls 2 [(0, .ref (A 0)), (1, .int a1)] := hl
  have X : CX rLay rN D cA A p s m0 args meth c "BenchTowelsModel" cX12_isByte 2 (some .boolean) := X
  have hx := X.1
  have hb := X.2.1
  have hml := X.2.2.1
  have hown := X.2.2.2.1
  have hts := X.2.2.2.2.1
  have hF := X.2.2.2.2.2.2.2.2.1
  rewrite [fX12_isByte] at h
  refine lv_aload_n hx hb dX12_isByte_0 rfl (lv_at hl 0 rfl) ?_
  refine r_get kc_12 6 X hP (by decide) (L_ref _) (by decide) rfl wt_5_178 dX12_isByte_1 ?_
  refine lv_iconst (v := 3) hx hb dX12_isByte_4 (by decide) ?_
  refine lv_icmp_ne (tgt := 24) hx hb dX12_isByte_5 (by decide) (fun c_1 => ?_) (fun c_1 => ?_)
  · have h := ifn c_1 h
    refine lv_iconst (v := 0) hx hb dX12_isByte_24 (by decide) ?_
    exact r_zret X (Or.inl rfl) hP hS dX12_isByte_25 h
  · have h := ifp c_1 h
    refine lv_aload_n hx hb dX12_isByte_8 rfl (lv_at hl 0 rfl) ?_
    refine lv_aload_n hx hb dX12_isByte_9 rfl (lv_at hl 0 rfl) ?_
    refine r_get kc_12 7 X hP (by decide) (L_ref _) (by decide) rfl wt_5_179 dX12_isByte_10 ?_
    obtain ⟨r_2, m_3, hc_4, h⟩ := bd_some h
    refine c_V (rest := []) X hP hS (tX12_byteAt hI  hc_4) (by decide) (L_ref _) rfl wt_6_168 wt_6_170 ws_3_5 wt_1_13 wt_6_171 ⟨rfl, hy_X12_byteAt⟩ ⟨rfl, rfl⟩ ⟨Nat.le_of_ble_eq_true rfl, Nat.le_of_ble_eq_true rfl⟩ rfl hl.1 rfl (Nat.le_of_ble_eq_true rfl) dX12_isByte_13 rfl (fun H locs hP hS => ?_)
    refine lv_iload_n hx hb dX12_isByte_16 rfl (lv_at hl 1 rfl) ?_
    refine lv_icmp_ne (tgt := 24) hx hb dX12_isByte_17 (by decide) (fun c_5 => ?_) (fun c_5 => ?_)
    · have h := ifn c_5 h
      refine lv_iconst (v := 0) hx hb dX12_isByte_24 (by decide) ?_
      exact r_zret X (Or.inl rfl) hP hS dX12_isByte_25 h
    · have h := ifp c_5 h
      refine lv_iconst (v := 1) hx hb dX12_isByte_20 (by decide) ?_
      refine lv_goto (tgt := 25) hx hb dX12_isByte_21 (by decide) ?_
      exact r_zret X (Or.inr rfl) hP hS dX12_isByte_25 h

def fX12_isName (a1 : Int32) (a2 : Int32) (a3 : Int32) (a4 : Int32) (a5 : Int32) (m : Mm) : Option (Int32 × Mm) := (if (m 0 6) = 1 then (if ((m 0 8) - (m 0 7)) = a1 then bd (fX12_byteAt (m 0 7) m) fun r_3 m_4 => (if r_3 = a2 then bd (fX12_byteAt ((m_4 0 7) + 1) m_4) fun r_7 m_8 => (if r_7 = a3 then bd (fX12_byteAt ((m_8 0 7) + 2) m_8) fun r_11 m_12 => (if r_11 = a4 then bd (fX12_byteAt ((m_12 0 8) - 1) m_12) fun r_15 m_16 => (if r_15 = a5 then some (1, m_16) else some (0, m_16)) else some (0, m_12)) else some (0, m_8)) else some (0, m_4)) else some (0, m)) else some (0, m))
set_option maxHeartbeats 4000000 in
set_option maxRecDepth 100000 in
theorem tX12_isName {l : Launch} {D : va_G} {cA : Nat → ClassId} {A : Nat → Nat} (hI : InjA rN A) {a1 : Int32} {a2 : Int32} {a3 : Int32} {a4 : Int32} {a5 : Int32} {m m' : Mm} {r : Int32} (h : fX12_isName a1 a2 a3 a4 a5 m = some (r, m')) : Met0 l yX12_isName cX12_isName 6 (some .boolean) { frames := 1, cells := 0, slots := 0, locals := 21 } rLay rN D cA A [.ref (A 0), .int a1, .int a2, .int a3, .int a4, .int a5] m (some (.int r)) m' := by
  refine met0_of (by decide) (Nat.le_of_ble_eq_true rfl) hI ?_
  intro p e s m0 below meth c ls X hinit hP hS hl
  generalize ([.ref (A 0), .int a1, .int a2, .int a3, .int a4, .int a5] : List Value).toArray = args at X ⊢
  have hl : lv_has ls 6 [(0, .ref (A 0)), (1, .int a1), (2, .int a2), (3, .int a3), (4, .int a4), (5, .int a5)] := hl
  have X : CX rLay rN D cA A p s m0 args meth c "BenchTowelsModel" cX12_isName 6 (some .boolean) := X
  have hx := X.1
  have hb := X.2.1
  have hml := X.2.2.1
  have hown := X.2.2.2.1
  have hts := X.2.2.2.2.1
  have hF := X.2.2.2.2.2.2.2.2.1
  rewrite [fX12_isName] at h
  refine lv_aload_n hx hb dX12_isName_0 rfl (lv_at hl 0 rfl) ?_
  refine r_get kc_12 6 X hP (by decide) (L_ref _) (by decide) rfl wt_5_178 dX12_isName_1 ?_
  refine lv_iconst (v := 1) hx hb dX12_isName_4 (by decide) ?_
  refine lv_icmp_ne (tgt := 81) hx hb dX12_isName_5 (by decide) (fun c_1 => ?_) (fun c_1 => ?_)
  · have h := ifn c_1 h
    refine lv_iconst (v := 0) hx hb dX12_isName_81 (by decide) ?_
    exact r_zret X (Or.inl rfl) hP hS dX12_isName_82 h
  · have h := ifp c_1 h
    refine lv_aload_n hx hb dX12_isName_8 rfl (lv_at hl 0 rfl) ?_
    refine r_get kc_12 8 X hP (by decide) (L_ref _) (by decide) rfl wt_5_180 dX12_isName_9 ?_
    refine lv_aload_n hx hb dX12_isName_12 rfl (lv_at hl 0 rfl) ?_
    refine r_get kc_12 7 X hP (by decide) (L_ref _) (by decide) rfl wt_5_179 dX12_isName_13 ?_
    refine lv_isub hx hb dX12_isName_16 ?_
    refine lv_iload_n hx hb dX12_isName_17 rfl (lv_at hl 1 rfl) ?_
    refine lv_icmp_ne (tgt := 81) hx hb dX12_isName_18 (by decide) (fun c_2 => ?_) (fun c_2 => ?_)
    · have h := ifn c_2 h
      refine lv_iconst (v := 0) hx hb dX12_isName_81 (by decide) ?_
      exact r_zret X (Or.inl rfl) hP hS dX12_isName_82 h
    · have h := ifp c_2 h
      refine lv_aload_n hx hb dX12_isName_21 rfl (lv_at hl 0 rfl) ?_
      refine lv_aload_n hx hb dX12_isName_22 rfl (lv_at hl 0 rfl) ?_
      refine r_get kc_12 7 X hP (by decide) (L_ref _) (by decide) rfl wt_5_179 dX12_isName_23 ?_
      obtain ⟨r_3, m_4, hc_5, h⟩ := bd_some h
      refine c_V (rest := []) X hP hS (tX12_byteAt hI  hc_5) (by decide) (L_ref _) rfl wt_6_168 wt_6_170 ws_3_5 wt_1_13 wt_6_171 ⟨rfl, hy_X12_byteAt⟩ ⟨rfl, rfl⟩ ⟨Nat.le_of_ble_eq_true rfl, Nat.le_of_ble_eq_true rfl⟩ rfl hl.1 rfl (Nat.le_of_ble_eq_true rfl) dX12_isName_26 rfl (fun H locs hP hS => ?_)
      refine lv_iload_n hx hb dX12_isName_29 rfl (lv_at hl 2 rfl) ?_
      refine lv_icmp_ne (tgt := 81) hx hb dX12_isName_30 (by decide) (fun c_6 => ?_) (fun c_6 => ?_)
      · have h := ifn c_6 h
        refine lv_iconst (v := 0) hx hb dX12_isName_81 (by decide) ?_
        exact r_zret X (Or.inl rfl) hP hS dX12_isName_82 h
      · have h := ifp c_6 h
        refine lv_aload_n hx hb dX12_isName_33 rfl (lv_at hl 0 rfl) ?_
        refine lv_aload_n hx hb dX12_isName_34 rfl (lv_at hl 0 rfl) ?_
        refine r_get kc_12 7 X hP (by decide) (L_ref _) (by decide) rfl wt_5_179 dX12_isName_35 ?_
        refine lv_iconst (v := 1) hx hb dX12_isName_38 (by decide) ?_
        refine lv_iadd hx hb dX12_isName_39 ?_
        obtain ⟨r_7, m_8, hc_9, h⟩ := bd_some h
        refine c_V (rest := []) X hP hS (tX12_byteAt hI  hc_9) (by decide) (L_ref _) rfl wt_6_168 wt_6_170 ws_3_5 wt_1_13 wt_6_171 ⟨rfl, hy_X12_byteAt⟩ ⟨rfl, rfl⟩ ⟨Nat.le_of_ble_eq_true rfl, Nat.le_of_ble_eq_true rfl⟩ rfl hl.1 rfl (Nat.le_of_ble_eq_true rfl) dX12_isName_40 rfl (fun H locs hP hS => ?_)
        refine lv_iload_n hx hb dX12_isName_43 rfl (lv_at hl 3 rfl) ?_
        refine lv_icmp_ne (tgt := 81) hx hb dX12_isName_44 (by decide) (fun c_10 => ?_) (fun c_10 => ?_)
        · have h := ifn c_10 h
          refine lv_iconst (v := 0) hx hb dX12_isName_81 (by decide) ?_
          exact r_zret X (Or.inl rfl) hP hS dX12_isName_82 h
        · have h := ifp c_10 h
          refine lv_aload_n hx hb dX12_isName_47 rfl (lv_at hl 0 rfl) ?_
          refine lv_aload_n hx hb dX12_isName_48 rfl (lv_at hl 0 rfl) ?_
          refine r_get kc_12 7 X hP (by decide) (L_ref _) (by decide) rfl wt_5_179 dX12_isName_49 ?_
          refine lv_iconst (v := 2) hx hb dX12_isName_52 (by decide) ?_
          refine lv_iadd hx hb dX12_isName_53 ?_
          obtain ⟨r_11, m_12, hc_13, h⟩ := bd_some h
          refine c_V (rest := []) X hP hS (tX12_byteAt hI  hc_13) (by decide) (L_ref _) rfl wt_6_168 wt_6_170 ws_3_5 wt_1_13 wt_6_171 ⟨rfl, hy_X12_byteAt⟩ ⟨rfl, rfl⟩ ⟨Nat.le_of_ble_eq_true rfl, Nat.le_of_ble_eq_true rfl⟩ rfl hl.1 rfl (Nat.le_of_ble_eq_true rfl) dX12_isName_54 rfl (fun H locs hP hS => ?_)
          refine lv_iload hx hb dX12_isName_57 (lv_at hl 4 rfl) ?_
          refine lv_icmp_ne (tgt := 81) hx hb dX12_isName_59 (by decide) (fun c_14 => ?_) (fun c_14 => ?_)
          · have h := ifn c_14 h
            refine lv_iconst (v := 0) hx hb dX12_isName_81 (by decide) ?_
            exact r_zret X (Or.inl rfl) hP hS dX12_isName_82 h
          · have h := ifp c_14 h
            refine lv_aload_n hx hb dX12_isName_62 rfl (lv_at hl 0 rfl) ?_
            refine lv_aload_n hx hb dX12_isName_63 rfl (lv_at hl 0 rfl) ?_
            refine r_get kc_12 8 X hP (by decide) (L_ref _) (by decide) rfl wt_5_180 dX12_isName_64 ?_
            refine lv_iconst (v := 1) hx hb dX12_isName_67 (by decide) ?_
            refine lv_isub hx hb dX12_isName_68 ?_
            obtain ⟨r_15, m_16, hc_17, h⟩ := bd_some h
            refine c_V (rest := []) X hP hS (tX12_byteAt hI  hc_17) (by decide) (L_ref _) rfl wt_6_168 wt_6_170 ws_3_5 wt_1_13 wt_6_171 ⟨rfl, hy_X12_byteAt⟩ ⟨rfl, rfl⟩ ⟨Nat.le_of_ble_eq_true rfl, Nat.le_of_ble_eq_true rfl⟩ rfl hl.1 rfl (Nat.le_of_ble_eq_true rfl) dX12_isName_69 rfl (fun H locs hP hS => ?_)
            refine lv_iload hx hb dX12_isName_72 (lv_at hl 5 rfl) ?_
            refine lv_icmp_ne (tgt := 81) hx hb dX12_isName_74 (by decide) (fun c_18 => ?_) (fun c_18 => ?_)
            · have h := ifn c_18 h
              refine lv_iconst (v := 0) hx hb dX12_isName_81 (by decide) ?_
              exact r_zret X (Or.inl rfl) hP hS dX12_isName_82 h
            · have h := ifp c_18 h
              refine lv_iconst (v := 1) hx hb dX12_isName_77 (by decide) ?_
              refine lv_goto (tgt := 82) hx hb dX12_isName_78 (by decide) ?_
              exact r_zret X (Or.inr rfl) hP hS dX12_isName_82 h

end
