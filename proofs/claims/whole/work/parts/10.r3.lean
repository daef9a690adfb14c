-- the reference's methods walked, by program (wip/whole/gen)
section
variable {p : Program} {l : Launch} {e : Env} {s : State} {m0 : MethodId} {args : Array Value} {below : List Frame} {meth : Method} {c : Code} {D : va_G} {cA : Nat → ClassId} {A : Nat → Nat}
def fX12_times_80 (K36 : Int32 → Int32 → Int32 → Int32 → Mm → Option (Int32 × Mm)) : Nat → Int32 → Int32 → Int32 → Int32 → Int32 → Mm → Option (Int32 × Mm)
  | 0, _, _, _, _, _, _ => none
  | n + 1, x1, x2, x3, x4, x6, m => bd (fX12_isOver m) fun r_24 m_25 => (if r_24 = 0 then bd (fX12_goesByLot m_25) fun r_37 m_38 => lt (x6 + r_37) fun x6_40 => (fX12_times_80 K36 n x1 x2 x3 x4 x6_40 m_38) else (if x6 < x2 then lt (x3 + 0) fun x3_29 => lt ((x4 : Int32) + 1) fun x4_31 => (K36 x1 x2 x3_29 x4_31 m_25) else lt (x3 + 1) fun x3_33 => lt ((x4 : Int32) + 1) fun x4_35 => (K36 x1 x2 x3_33 x4_35 m_25)))
set_option maxHeartbeats 4000000 in
set_option maxRecDepth 100000 in
theorem tX12_times_80 (hI : InjA rN A)  {r : Int32} {m' : Mm} {K36 : Int32 → Int32 → Int32 → Int32 → Mm → Option (Int32 × Mm)} (hK36 : ∀ (x1 : Int32) (x2 : Int32) (x3 : Int32) (x4 : Int32) (m : Mm) (H : Heap) (locs : List Loc) (ls : Array Slot), K36 x1 x2 x3 x4 m = some (r, m') → va_P D vwCl (wsOf rLay rN cA A m) H → va_S (AW rN A) s.heap H locs → lv_has ls 7 [(0, .ref (A 0)), (1, .int x1), (2, .int x2), (3, .int x3), (4, .int x4)] → W p l e { frames := 6, cells := 0, slots := 0, locals := 140 } s m0 args below meth c H locs 0 0 (ZR below args s rLay rN D cA A (some (.int r)) m') (F0 m0 36 ls [])) (X : CX rLay rN D cA A p s m0 args meth c "BenchTowelsModel" cX12_times 7 (some .int)) : ∀ (n : Nat) (x1 : Int32) (x2 : Int32) (x3 : Int32) (x4 : Int32) (x6 : Int32) (m : Mm) (H : Heap) (locs : List Loc) (ls : Array Slot), fX12_times_80 K36 n x1 x2 x3 x4 x6 m = some (r, m') → va_P D vwCl (wsOf rLay rN cA A m) H → va_S (AW rN A) s.heap H locs → lv_has ls 7 [(0, .ref (A 0)), (1, .int x1), (2, .int x2), (3, .int x3), (4, .int x4), (6, .int x6)] → W p l e { frames := 6, cells := 0, slots := 0, locals := 140 } s m0 args below meth c H locs 0 0 (ZR below args s rLay rN D cA A (some (.int r)) m') (F0 m0 80 ls []) := by
  have hx := X.1
  have hb := X.2.1
  have hml := X.2.2.1
  have hown := X.2.2.2.1
  have hts := X.2.2.2.2.1
  have hF := X.2.2.2.2.2.2.2.2.1
  intro n
  induction n with
  | zero =>
    intro x1 x2 x3 x4 x6 m H locs ls h hP hS hl
    exact absurd h (by rewrite [fX12_times_80]; exact fun q => by cases q)
  | succ n ih =>
    intro x1 x2 x3 x4 x6 m H locs ls h hP hS hl
    rewrite [fX12_times_80] at h
    refine lv_aload_n hx hb dX12_times_80 rfl (lv_at hl 0 rfl) ?_
    obtain ⟨r_24, m_25, hc_26, h⟩ := bd_some h
    refine c_V (rest := []) X hP hS (tX12_isOver hI  hc_26) (by decide) (L_ref _) rfl wt_6_147 wt_6_149 ws_3_2 wt_1_13 wt_6_150 ⟨rfl, hy_X12_isOver⟩ ⟨rfl, rfl⟩ ⟨Nat.le_of_ble_eq_true rfl, Nat.le_of_ble_eq_true rfl⟩ rfl hl.1 rfl (Nat.le_of_ble_eq_true rfl) dX12_times_81 rfl (fun H locs hP hS => ?_)
    refine lv_if_ne (tgt := 99) hx hb dX12_times_84 (by decide) (fun c_27 => ?_) (fun c_27 => ?_)
    · have h := ifn c_27 h
      refine lv_iload_n hx hb dX12_times_99 rfl (lv_at hl 3 rfl) ?_
      refine lv_iload hx hb dX12_times_100 (lv_at hl 5 rfl) ?_
      refine lv_iload_n hx hb dX12_times_102 rfl (lv_at hl 2 rfl) ?_
      refine lv_icmp_lt (tgt := 110) hx hb dX12_times_103 (by decide) (fun c_28 => ?_) (fun c_28 => ?_)
      · have h := ifp c_28 h
        refine lv_iconst (v := 0) hx hb dX12_times_110 (by decide) ?_
        refine lv_iadd hx hb dX12_times_111 ?_
        obtain ⟨x3_29, ex_30, h⟩ := lt_some h
        refine lv_ren ex_30 ?_
        refine lv_istore_n (lv' := [(3, .int x3_29), (0, .ref (A 0)), (1, .int x1), (2, .int x2), (4, .int x4), (6, .int x6)]) hx hb dX12_times_112 rfl hl (by decide) rfl (fun ls hl => ?_)
        obtain ⟨x4_31, ex_32, h⟩ := lt_some h
        refine lv_iinc (v := x4_31) (lv' := [(4, .int x4_31), (3, .int x3_29), (0, .ref (A 0)), (1, .int x1), (2, .int x2), (6, .int x6)]) hx hb dX12_times_113 hl (k := 4) rfl (by rw [ex_32]; rfl) (by decide) rfl (fun ls hl => ?_)
        refine lv_goto (tgt := 36) hx hb dX12_times_116 (by decide) ?_
        exact hK36 x1 x2 x3_29 x4_31 m_25 _ _ _ h hP hS (lv_sub hl [2, 3, 4, 1, 0] rfl)
      · have h := ifn c_28 h
        refine lv_iconst (v := 1) hx hb dX12_times_106 (by decide) ?_
        refine lv_goto (tgt := 111) hx hb dX12_times_107 (by decide) ?_
        refine lv_iadd hx hb dX12_times_111 ?_
        obtain ⟨x3_33, ex_34, h⟩ := lt_some h
        refine lv_ren ex_34 ?_
        refine lv_istore_n (lv' := [(3, .int x3_33), (0, .ref (A 0)), (1, .int x1), (2, .int x2), (4, .int x4), (6, .int x6)]) hx hb dX12_times_112 rfl hl (by decide) rfl (fun ls hl => ?_)
        obtain ⟨x4_35, ex_36, h⟩ := lt_some h
        refine lv_iinc (v := x4_35) (lv' := [(4, .int x4_35), (3, .int x3_33), (0, .ref (A 0)), (1, .int x1), (2, .int x2), (6, .int x6)]) hx hb dX12_times_113 hl (k := 4) rfl (by rw [ex_36]; rfl) (by decide) rfl (fun ls hl => ?_)
        refine lv_goto (tgt := 36) hx hb dX12_times_116 (by decide) ?_
        exact hK36 x1 x2 x3_33 x4_35 m_25 _ _ _ h hP hS (lv_sub hl [2, 3, 4, 1, 0] rfl)
    · have h := ifp c_27 h
      refine lv_iload hx hb dX12_times_87 (lv_at hl 5 rfl) ?_
      refine lv_aload_n hx hb dX12_times_89 rfl (lv_at hl 0 rfl) ?_
      obtain ⟨r_37, m_38, hc_39, h⟩ := bd_some h
      refine c_V (rest := [.int x6]) X hP hS (tX12_goesByLot hI  hc_39) (by decide) (L_ref _) rfl wt_7_161 wt_7_163 ws_5_5 wt_1_13 wt_7_164 ⟨rfl, hy_X12_goesByLot⟩ ⟨rfl, rfl⟩ ⟨Nat.le_of_ble_eq_true rfl, Nat.le_of_ble_eq_true rfl⟩ rfl hl.1 rfl (Nat.le_of_ble_eq_true rfl) dX12_times_90 rfl (fun H locs hP hS => ?_)
      refine lv_iadd hx hb dX12_times_93 ?_
      obtain ⟨x6_40, ex_41, h⟩ := lt_some h
      refine lv_ren ex_41 ?_
      refine lv_istore (lv' := [(6, .int x6_40), (0, .ref (A 0)), (1, .int x1), (2, .int x2), (3, .int x3), (4, .int x4)]) hx hb dX12_times_94 hl (by decide) rfl (fun ls hl => ?_)
      refine lv_goto (tgt := 80) hx hb dX12_times_96 (by decide) ?_
      exact ih x1 x2 x3 x4 x6_40 m_38 _ _ _  h hP hS (lv_sub hl [1, 2, 3, 4, 5, 0] rfl)

def fX12_times_36  : Nat → Int32 → Int32 → Int32 → Int32 → Mm → Option (Int32 × Mm)
  | 0, _, _, _, _, _ => none
  | n + 1, x1, x2, x3, x4, m => (if (x1 : Int32) ≤ x4 then bd (fX12_laysBack (0 : Int32) m) fun r_13 m_14 => some (x3, m_14) else lt (m 1 4) fun x5_16 => bd (fX12_laysBack (0 : Int32) m) fun r_18 m_19 => (if x4 = 0 then lt (up m_19 1 4 (m_19 1 4)) fun m_42 => (fX12_times_80 (fun x1 x2 x3 x4 m => fX12_times_36 n x1 x2 x3 x4 m) FL x1 x2 x3 x4 0 m_42) else lt (up m_19 1 4 x5_16) fun m_22 => (fX12_times_80 (fun x1 x2 x3 x4 m => fX12_times_36 n x1 x2 x3 x4 m) FL x1 x2 x3 x4 0 m_22)))
set_option maxHeartbeats 4000000 in
set_option maxRecDepth 100000 in
theorem tX12_times_36 (hI : InjA rN A)  {r : Int32} {m' : Mm} (X : CX rLay rN D cA A p s m0 args meth c "BenchTowelsModel" cX12_times 7 (some .int)) : ∀ (n : Nat) (x1 : Int32) (x2 : Int32) (x3 : Int32) (x4 : Int32) (m : Mm) (H : Heap) (locs : List Loc) (ls : Array Slot), fX12_times_36 n x1 x2 x3 x4 m = some (r, m') → va_P D vwCl (wsOf rLay rN cA A m) H → va_S (AW rN A) s.heap H locs → lv_has ls 7 [(0, .ref (A 0)), (1, .int x1), (2, .int x2), (3, .int x3), (4, .int x4)] → W p l e { frames := 6, cells := 0, slots := 0, locals := 140 } s m0 args below meth c H locs 0 0 (ZR below args s rLay rN D cA A (some (.int r)) m') (F0 m0 36 ls []) := by
  have hx := X.1
  have hb := X.2.1
  have hml := X.2.2.1
  have hown := X.2.2.2.1
  have hts := X.2.2.2.2.1
  have hF := X.2.2.2.2.2.2.2.2.1
  intro n
  induction n with
  | zero =>
    intro x1 x2 x3 x4 m H locs ls h hP hS hl
    exact absurd h (by rewrite [fX12_times_36]; exact fun q => by cases q)
  | succ n ih =>
    intro x1 x2 x3 x4 m H locs ls h hP hS hl
    rewrite [fX12_times_36] at h
    refine lv_iload hx hb dX12_times_36 (lv_at hl 4 rfl) ?_
    refine lv_iload_n hx hb dX12_times_38 rfl (lv_at hl 1 rfl) ?_
    refine lv_icmp_ge (tgt := 119) hx hb dX12_times_39 (by decide) (fun c_12 => ?_) (fun c_12 => ?_)
    · have h := ifp c_12 h
      refine lv_aload_n hx hb dX12_times_119 rfl (lv_at hl 0 rfl) ?_
      refine lv_iconst (v := 0) hx hb dX12_times_120 (by decide) ?_
      obtain ⟨r_13, m_14, hc_15, h⟩ := bd_some h
      refine c_V (rest := []) X hP hS (tX12_laysBack hI  hc_15) (by decide) (L_ref _) rfl wt_7_32 wt_7_34 ws_4_10 wt_1_13 wt_7_35 ⟨rfl, hy_X12_laysBack⟩ ⟨rfl, rfl⟩ ⟨Nat.le_of_ble_eq_true rfl, Nat.le_of_ble_eq_true rfl⟩ rfl hl.1 rfl (Nat.le_of_ble_eq_true rfl) dX12_times_121 rfl (fun H locs hP hS => ?_)
      refine lv_iload_n hx hb dX12_times_124 rfl (lv_at hl 3 rfl) ?_
      exact r_iret X hP hS dX12_times_125 h
    · have h := ifn c_12 h
      refine lv_aload_n hx hb dX12_times_42 rfl (lv_at hl 0 rfl) ?_
      refine r_get kc_12 0 X hP (by decide) (L_ref _) (by decide) rfl wt_5_172 dX12_times_43 ?_
      refine lv_iconst (v := 4) hx hb dX12_times_46 (by decide) ?_
      refine r_iald X hP (by decide) (Lr_1 _) (vpc (by decide)) ixc_4 dX12_times_47 ?_
      obtain ⟨x5_16, ex_17, h⟩ := lt_some h
      refine lv_ren ex_17 ?_
      refine lv_istore (lv' := [(5, .int x5_16), (0, .ref (A 0)), (1, .int x1), (2, .int x2), (3, .int x3), (4, .int x4)]) hx hb dX12_times_48 hl (by decide) rfl (fun ls hl => ?_)
      refine lv_aload_n hx hb dX12_times_50 rfl (lv_at hl 1 rfl) ?_
      refine lv_iconst (v := 0) hx hb dX12_times_51 (by decide) ?_
      obtain ⟨r_18, m_19, hc_20, h⟩ := bd_some h
      refine c_V (rest := []) X hP hS (tX12_laysBack hI  hc_20) (by decide) (L_ref _) rfl wt_7_32 wt_7_34 ws_4_10 wt_1_13 wt_7_35 ⟨rfl, hy_X12_laysBack⟩ ⟨rfl, rfl⟩ ⟨Nat.le_of_ble_eq_true rfl, Nat.le_of_ble_eq_true rfl⟩ rfl hl.1 rfl (Nat.le_of_ble_eq_true rfl) dX12_times_52 rfl (fun H locs hP hS => ?_)
      refine lv_aload_n hx hb dX12_times_55 rfl (lv_at hl 1 rfl) ?_
      refine r_get kc_12 0 X hP (by decide) (L_ref _) (by decide) rfl wt_5_172 dX12_times_56 ?_
      refine lv_iconst (v := 4) hx hb dX12_times_59 (by decide) ?_
      refine lv_iload hx hb dX12_times_60 (lv_at hl 5 rfl) ?_
      refine lv_if_ne (tgt := 74) hx hb dX12_times_62 (by decide) (fun c_21 => ?_) (fun c_21 => ?_)
      · have h := ifn c_21 h
        refine lv_iload hx hb dX12_times_74 (lv_at hl 0 rfl) ?_
        obtain ⟨m_22, em_23, h⟩ := lt_some h
        refine r_iast X hP hS (by decide) Lr_1 (vpc (by decide)) ixc_4 dX12_times_76 em_23 (fun H locs hP hS => ?_)
        refine lv_iconst (v := 0) hx hb dX12_times_77 (by decide) ?_
        refine lv_istore (lv' := [(6, .int 0), (5, .int x5_16), (0, .ref (A 0)), (1, .int x1), (2, .int x2), (3, .int x3), (4, .int x4)]) hx hb dX12_times_78 hl (by decide) rfl (fun ls hl => ?_)
        exact tX12_times_80 hI   (fun x1 x2 x3 x4 m H locs ls h hP hS hl => ih x1 x2 x3 x4 m H locs ls  h hP hS hl) X FL x1 x2 x3 x4 0 m_22 _ _ _  h hP hS (lv_sub hl [2, 3, 4, 5, 6, 0] rfl)
      · have h := ifp c_21 h
        refine lv_aload_n hx hb dX12_times_65 rfl (lv_at hl 1 rfl) ?_
        refine r_get kc_12 0 X hP (by decide) (L_ref _) (by decide) rfl wt_5_172 dX12_times_66 ?_
        refine lv_iconst (v := 4) hx hb dX12_times_69 (by decide) ?_
        refine r_iald X hP (by decide) (Lr_1 _) (vpc (by decide)) ixc_4 dX12_times_70 ?_
        refine lv_goto (tgt := 76) hx hb dX12_times_71 (by decide) ?_
        obtain ⟨m_42, em_43, h⟩ := lt_some h
        refine r_iast X hP hS (by decide) Lr_1 (vpc (by decide)) ixc_4 dX12_times_76 em_43 (fun H locs hP hS => ?_)
        refine lv_iconst (v := 0) hx hb dX12_times_77 (by decide) ?_
        refine lv_istore (lv' := [(6, .int 0), (5, .int x5_16), (0, .ref (A 0)), (1, .int x1), (2, .int x2), (3, .int x3), (4, .int x4)]) hx hb dX12_times_78 hl (by decide) rfl (fun ls hl => ?_)
        exact tX12_times_80 hI   (fun x1 x2 x3 x4 m H locs ls h hP hS hl => ih x1 x2 x3 x4 m H locs ls  h hP hS hl) X FL x1 x2 x3 x4 0 m_42 _ _ _  h hP hS (lv_sub hl [2, 3, 4, 5, 6, 0] rfl)

def fX12_times (a1 : Int32) (a2 : Int32) (m : Mm) : Option (Int32 × Mm) := bd (fX12_isIn (Int32.toInt64 a1) (1 : Int64) (40 : Int64) m) fun r_1 m_2 => (if r_1 = 0 then some ((-1), m_2) else bd (fX12_isIn (Int32.toInt64 a2) (0 : Int64) (999 : Int64) m_2) fun r_5 m_6 => (if r_5 = 0 then some ((-1), m_6) else bd (fX12_laysAside (0 : Int32) m_6) fun r_9 m_10 => (fX12_times_36  FL a1 a2 0 0 m_10)))
set_option maxHeartbeats 4000000 in
set_option maxRecDepth 100000 in
theorem tX12_times {l : Launch} {D : va_G} {cA : Nat → ClassId} {A : Nat → Nat} (hI : InjA rN A) {a1 : Int32} {a2 : Int32} {m m' : Mm} {r : Int32} (h : fX12_times a1 a2 m = some (r, m')) : Met0 l yX12_times cX12_times 7 (some .int) { frames := 6, cells := 0, slots := 0, locals := 140 } rLay rN D cA A [.ref (A 0), .int a1, .int a2] m (some (.int r)) m' := by
  refine met0_of (by decide) (Nat.le_of_ble_eq_true rfl) hI ?_
  intro p e s m0 below meth c ls X hinit hP hS hl
  generalize ([.ref (A 0), .int a1, .int a2] : List Value).toArray = args at X ⊢
  have hl : lv_has ls 7 [(0, .ref (A 0)), (1, .int a1), (2, .int a2)] := hl
  have X : CX rLay rN D cA A p s m0 args meth c "BenchTowelsModel" cX12_times 7 (some .int) := X
  have hx := X.1
  have hb := X.2.1
  have hml := X.2.2.1
  have hown := X.2.2.2.1
  have hts := X.2.2.2.2.1
  have hF := X.2.2.2.2.2.2.2.2.1
  rewrite [fX12_times] at h
  refine lv_iload_n hx hb dX12_times_0 rfl (lv_at hl 1 rfl) ?_
  refine lv_i2l hx hb dX12_times_1 rfl ?_
  refine lv_lconst (v := 1) hx hb dX12_times_2 (by decide) ?_
  refine lv_ldc2 (v := 40) hx hb hown (hts _ wt_7_170) dX12_times_3 ?_
  obtain ⟨r_1, m_2, hc_3, h⟩ := bd_some h
  refine c_S (rest := []) X hP hS (tX12_isIn hI  hc_3) wt_6_55 wt_6_56 wt_1_13 wt_6_57 hy_X12_isIn ⟨rfl, rfl⟩ ⟨Nat.le_of_ble_eq_true rfl, Nat.le_of_ble_eq_true rfl⟩ rfl hl.1 rfl (Nat.le_of_ble_eq_true rfl) dX12_times_6 rfl (fun H locs hP hS => ?_)
  refine lv_if_eq (tgt := 24) hx hb dX12_times_9 (by decide) (fun c_4 => ?_) (fun c_4 => ?_)
  · have h := ifp c_4 h
    refine lv_iconst (v := (-1)) hx hb dX12_times_24 (by decide) ?_
    exact r_iret X hP hS dX12_times_25 h
  · have h := ifn c_4 h
    refine lv_iload_n hx hb dX12_times_12 rfl (lv_at hl 2 rfl) ?_
    refine lv_i2l hx hb dX12_times_13 rfl ?_
    refine lv_lconst (v := 0) hx hb dX12_times_14 (by decide) ?_
    refine lv_ldc2 (v := 999) hx hb hown (hts _ wt_7_171) dX12_times_15 ?_
    obtain ⟨r_5, m_6, hc_7, h⟩ := bd_some h
    refine c_S (rest := []) X hP hS (tX12_isIn hI  hc_7) wt_6_55 wt_6_56 wt_1_13 wt_6_57 hy_X12_isIn ⟨rfl, rfl⟩ ⟨Nat.le_of_ble_eq_true rfl, Nat.le_of_ble_eq_true rfl⟩ rfl hl.1 rfl (Nat.le_of_ble_eq_true rfl) dX12_times_18 rfl (fun H locs hP hS => ?_)
    refine lv_if_ne (tgt := 26) hx hb dX12_times_21 (by decide) (fun c_8 => ?_) (fun c_8 => ?_)
    · have h := ifn c_8 h
      refine lv_aload_n hx hb dX12_times_26 rfl (lv_at hl 0 rfl) ?_
      refine lv_iconst (v := 0) hx hb dX12_times_27 (by decide) ?_
      obtain ⟨r_9, m_10, hc_11, h⟩ := bd_some h
      refine c_V (rest := []) X hP hS (tX12_laysAside hI  hc_11) (by decide) (L_ref _) rfl wt_7_28 wt_7_30 ws_4_9 wt_1_13 wt_7_31 ⟨rfl, hy_X12_laysAside⟩ ⟨rfl, rfl⟩ ⟨Nat.le_of_ble_eq_true rfl, Nat.le_of_ble_eq_true rfl⟩ rfl hl.1 rfl (Nat.le_of_ble_eq_true rfl) dX12_times_28 rfl (fun H locs hP hS => ?_)
      refine lv_iconst (v := 0) hx hb dX12_times_31 (by decide) ?_
      refine lv_istore_n (lv' := [(3, .int 0), (0, .ref (A 0)), (1, .int a1), (2, .int a2)]) hx hb dX12_times_32 rfl hl (by decide) rfl (fun ls hl => ?_)
      refine lv_iconst (v := 0) hx hb dX12_times_33 (by decide) ?_
      refine lv_istore (lv' := [(4, .int 0), (3, .int 0), (0, .ref (A 0)), (1, .int a1), (2, .int a2)]) hx hb dX12_times_34 hl (by decide) rfl (fun ls hl => ?_)
      exact tX12_times_36 hI    X FL a1 a2 0 0 m_10 _ _ _  h hP hS (lv_sub hl [2, 3, 4, 1, 0] rfl)
    · have h := ifp c_8 h
      refine lv_iconst (v := (-1)) hx hb dX12_times_24 (by decide) ?_
      exact r_iret X hP hS dX12_times_25 h

def fX12_prove_22  : Nat → Int32 → Mm → Option (Int32 × Mm)
  | 0, _, _ => none
  | n + 1, x2, m => (if ((m 0 18) : Int32) ≤ x2 then bd (fX12_laysBack (0 : Int32) m) fun r_12 m_13 => lt (up m_13 0 26 (m_13 0 18)) fun m_15 => some ((m_15 0 26), m_15) else gx x2 4 (gx ((3 : Int32) * x2) 12 (lt (up m 8 (ix ((3 : Int32) * x2)) (m 7 (ix x2))) fun m_19 => bd (fX12_goesWith (m_19 7 (ix x2)) m_19) fun r_21 m_22 => gx (((3 : Int32) * x2) + 1) 12 (lt (up m_22 8 (ix (((3 : Int32) * x2) + 1)) r_21) fun m_25 => bd (fX12_noneLeft m_25) fun r_27 m_28 => gx (((3 : Int32) * x2) + 2) 12 (lt (up m_28 8 (ix (((3 : Int32) * x2) + 2)) r_27) fun m_31 => lt ((x2 : Int32) + 1) fun x2_33 => (fX12_prove_22 n x2_33 m_31))))))
set_option maxHeartbeats 4000000 in
set_option maxRecDepth 100000 in
theorem tX12_prove_22 (hI : InjA rN A)  {r : Int32} {m' : Mm} (X : CX rLay rN D cA A p s m0 args meth c "BenchTowelsModel" cX12_prove 3 (some .int)) : ∀ (n : Nat) (x2 : Int32) (m : Mm) (H : Heap) (locs : List Loc) (ls : Array Slot), fX12_prove_22 n x2 m = some (r, m') → va_P D vwCl (wsOf rLay rN cA A m) H → va_S (AW rN A) s.heap H locs → lv_has ls 3 [(0, .ref (A 0)), (2, .int x2)] → W p l e { frames := 32, cells := 0, slots := 0, locals := 769 } s m0 args below meth c H locs 0 0 (ZR below args s rLay rN D cA A (some (.int r)) m') (F0 m0 22 ls []) := by
  have hx := X.1
  have hb := X.2.1
  have hml := X.2.2.1
  have hown := X.2.2.2.1
  have hts := X.2.2.2.2.1
  have hF := X.2.2.2.2.2.2.2.2.1
  intro n
  induction n with
  | zero =>
    intro x2 m H locs ls h hP hS hl
    exact absurd h (by rewrite [fX12_prove_22]; exact fun q => by cases q)
  | succ n ih =>
    intro x2 m H locs ls h hP hS hl
    rewrite [fX12_prove_22] at h
    refine lv_iload_n hx hb dX12_prove_22 rfl (lv_at hl 1 rfl) ?_
    refine lv_aload_n hx hb dX12_prove_23 rfl (lv_at hl 0 rfl) ?_
    refine r_get kc_12 18 X hP (by decide) (L_ref _) (by decide) rfl wt_5_190 dX12_prove_24 ?_
    refine lv_icmp_ge (tgt := 84) hx hb dX12_prove_27 (by decide) (fun c_11 => ?_) (fun c_11 => ?_)
    · have h := ifp c_11 h
      refine lv_aload_n hx hb dX12_prove_84 rfl (lv_at hl 0 rfl) ?_
      refine lv_iconst (v := 0) hx hb dX12_prove_85 (by decide) ?_
      obtain ⟨r_12, m_13, hc_14, h⟩ := bd_some h
      refine c_V (rest := []) X hP hS (tX12_laysBack hI  hc_14) (by decide) (L_ref _) rfl wt_7_32 wt_7_34 ws_4_10 wt_1_13 wt_7_35 ⟨rfl, hy_X12_laysBack⟩ ⟨rfl, rfl⟩ ⟨Nat.le_of_ble_eq_true rfl, Nat.le_of_ble_eq_true rfl⟩ rfl hl.1 rfl (Nat.le_of_ble_eq_true rfl) dX12_prove_86 rfl (fun H locs hP hS => ?_)
      refine lv_aload_n hx hb dX12_prove_89 rfl (lv_at hl 0 rfl) ?_
      refine lv_aload_n hx hb dX12_prove_90 rfl (lv_at hl 0 rfl) ?_
      refine r_get kc_12 18 X hP (by decide) (L_ref _) (by decide) rfl wt_5_190 dX12_prove_91 ?_
      obtain ⟨m_15, em_16, h⟩ := lt_some h
      refine r_put kc_12 26 X hP hS (by decide) (L_ref _) (L_ref _) (by decide) wt_5_198 rfl (by decide +kernel) (Nat.le_of_ble_eq_true rfl) dX12_prove_94 em_16 (fun H locs hP hS => ?_)
      refine lv_aload_n hx hb dX12_prove_97 rfl (lv_at hl 0 rfl) ?_
      refine r_get kc_12 26 X hP (by decide) (L_ref _) (by decide) rfl wt_5_198 dX12_prove_98 ?_
      exact r_iret X hP hS dX12_prove_101 h
    · have h := ifn c_11 h
      refine lv_aload_n hx hb dX12_prove_30 rfl (lv_at hl 0 rfl) ?_
      refine r_get kc_12 25 X hP (by decide) (L_ref _) (by decide) rfl wt_5_197 dX12_prove_31 ?_
      refine lv_iconst (v := 3) hx hb dX12_prove_34 (by decide) ?_
      refine lv_iload_n hx hb dX12_prove_35 rfl (lv_at hl 1 rfl) ?_
      refine lv_imul hx hb dX12_prove_36 ?_
      refine lv_aload_n hx hb dX12_prove_37 rfl (lv_at hl 0 rfl) ?_
      refine r_get kc_12 15 X hP (by decide) (L_ref _) (by decide) rfl wt_5_187 dX12_prove_38 ?_
      refine lv_iload_n hx hb dX12_prove_41 rfl (lv_at hl 1 rfl) ?_
      obtain ⟨hin_17, h⟩ := gx_some h
      refine r_iald X hP (by decide) (Lr_7 _) hin_17 rfl dX12_prove_42 ?_
      obtain ⟨hin_18, h⟩ := gx_some h
      obtain ⟨m_19, em_20, h⟩ := lt_some h
      refine r_iast X hP hS (by decide) Lr_8 hin_18 rfl dX12_prove_43 em_20 (fun H locs hP hS => ?_)
      refine lv_aload_n hx hb dX12_prove_44 rfl (lv_at hl 0 rfl) ?_
      refine r_get kc_12 25 X hP (by decide) (L_ref _) (by decide) rfl wt_5_197 dX12_prove_45 ?_
      refine lv_iconst (v := 3) hx hb dX12_prove_48 (by decide) ?_
      refine lv_iload_n hx hb dX12_prove_49 rfl (lv_at hl 1 rfl) ?_
      refine lv_imul hx hb dX12_prove_50 ?_
      refine lv_iconst (v := 1) hx hb dX12_prove_51 (by decide) ?_
      refine lv_iadd hx hb dX12_prove_52 ?_
      refine lv_aload_n hx hb dX12_prove_53 rfl (lv_at hl 0 rfl) ?_
      refine lv_aload_n hx hb dX12_prove_54 rfl (lv_at hl 0 rfl) ?_
      refine r_get kc_12 15 X hP (by decide) (L_ref _) (by decide) rfl wt_5_187 dX12_prove_55 ?_
      refine lv_iload_n hx hb dX12_prove_58 rfl (lv_at hl 1 rfl) ?_
      refine r_iald X hP (by decide) (Lr_7 _) hin_17 rfl dX12_prove_59 ?_
      obtain ⟨r_21, m_22, hc_23, h⟩ := bd_some h
      refine c_V (rest := [.int (((3 : Int32) * x2) + 1), .ref (A 8)]) X hP hS (tX12_goesWith hI  hc_23) (by decide) (L_ref _) rfl wt_7_6 wt_7_8 ws_4_6 wt_1_13 wt_7_9 ⟨rfl, hy_X12_goesWith⟩ ⟨rfl, rfl⟩ ⟨Nat.le_of_ble_eq_true rfl, Nat.le_of_ble_eq_true rfl⟩ rfl hl.1 rfl (Nat.le_of_ble_eq_true rfl) dX12_prove_60 rfl (fun H locs hP hS => ?_)
      obtain ⟨hin_24, h⟩ := gx_some h
      obtain ⟨m_25, em_26, h⟩ := lt_some h
      refine r_iast X hP hS (by decide) Lr_8 hin_24 rfl dX12_prove_63 em_26 (fun H locs hP hS => ?_)
      refine lv_aload_n hx hb dX12_prove_64 rfl (lv_at hl 0 rfl) ?_
      refine r_get kc_12 25 X hP (by decide) (L_ref _) (by decide) rfl wt_5_197 dX12_prove_65 ?_
      refine lv_iconst (v := 3) hx hb dX12_prove_68 (by decide) ?_
      refine lv_iload_n hx hb dX12_prove_69 rfl (lv_at hl 1 rfl) ?_
      refine lv_imul hx hb dX12_prove_70 ?_
      refine lv_iconst (v := 2) hx hb dX12_prove_71 (by decide) ?_
      refine lv_iadd hx hb dX12_prove_72 ?_
      refine lv_aload_n hx hb dX12_prove_73 rfl (lv_at hl 0 rfl) ?_
      obtain ⟨r_27, m_28, hc_29, h⟩ := bd_some h
      refine c_V (rest := [.int (((3 : Int32) * x2) + 2), .ref (A 8)]) X hP hS (tX12_noneLeft hI  hc_29) (by decide) (L_ref _) rfl wt_6_151 wt_6_153 ws_3_3 wt_1_13 wt_6_154 ⟨rfl, hy_X12_noneLeft⟩ ⟨rfl, rfl⟩ ⟨Nat.le_of_ble_eq_true rfl, Nat.le_of_ble_eq_true rfl⟩ rfl hl.1 rfl (Nat.le_of_ble_eq_true rfl) dX12_prove_74 rfl (fun H locs hP hS => ?_)
      obtain ⟨hin_30, h⟩ := gx_some h
      obtain ⟨m_31, em_32, h⟩ := lt_some h
      refine r_iast X hP hS (by decide) Lr_8 hin_30 rfl dX12_prove_77 em_32 (fun H locs hP hS => ?_)
      obtain ⟨x2_33, ex_34, h⟩ := lt_some h
      refine lv_iinc (v := x2_33) (lv' := [(2, .int x2_33), (0, .ref (A 0))]) hx hb dX12_prove_78 hl (k := 1) rfl (by rw [ex_34]; rfl) (by decide) rfl (fun ls hl => ?_)
      refine lv_goto (tgt := 22) hx hb dX12_prove_81 (by decide) ?_
      exact ih x2_33 m_31 _ _ _  h hP hS (lv_sub hl [1, 0] rfl)

def fX12_prove (a1 : Int32) (m : Mm) : Option (Int32 × Mm) := bd (fX12_isLong a1 m) fun r_1 m_2 => (if r_1 = 0 then some ((-1), m_2) else bd (fX12_findsPlans a1 (0 : Int32) m_2) fun r_5 m_6 => bd (fX12_laysAside (0 : Int32) m_6) fun r_8 m_9 => (fX12_prove_22  FL 0 m_9))
set_option maxHeartbeats 4000000 in
set_option maxRecDepth 100000 in
theorem tX12_prove {l : Launch} {D : va_G} {cA : Nat → ClassId} {A : Nat → Nat} (hI : InjA rN A) {a1 : Int32} {m m' : Mm} {r : Int32} (h : fX12_prove a1 m = some (r, m')) : Met0 l yX12_prove cX12_prove 3 (some .int) { frames := 32, cells := 0, slots := 0, locals := 769 } rLay rN D cA A [.ref (A 0), .int a1] m (some (.int r)) m' := by
  refine met0_of (by decide) (Nat.le_of_ble_eq_true rfl) hI ?_
  intro p e s m0 below meth c ls X hinit hP hS hl
  generalize ([.ref (A 0), .int a1] : List Value).toArray = args at X ⊢
  have hl : lv_has ls 3 [(0, .ref (A 0)), (1, .int a1)] := hl
  have X : CX rLay rN D cA A p s m0 args meth c "BenchTowelsModel" cX12_prove 3 (some .int) := X
  have hx := X.1
  have hb := X.2.1
  have hml := X.2.2.1
  have hown := X.2.2.2.1
  have hts := X.2.2.2.2.1
  have hF := X.2.2.2.2.2.2.2.2.1
  rewrite [fX12_prove] at h
  refine lv_iload_n hx hb dX12_prove_0 rfl (lv_at hl 1 rfl) ?_
  obtain ⟨r_1, m_2, hc_3, h⟩ := bd_some h
  refine c_S (rest := []) X hP hS (tX12_isLong hI  hc_3) wt_7_88 wt_7_89 wt_1_13 wt_7_90 hy_X12_isLong ⟨rfl, rfl⟩ ⟨Nat.le_of_ble_eq_true rfl, Nat.le_of_ble_eq_true rfl⟩ rfl hl.1 rfl (Nat.le_of_ble_eq_true rfl) dX12_prove_1 rfl (fun H locs hP hS => ?_)
  refine lv_if_ne (tgt := 9) hx hb dX12_prove_4 (by decide) (fun c_4 => ?_) (fun c_4 => ?_)
  · have h := ifn c_4 h
    refine lv_aload_n hx hb dX12_prove_9 rfl (lv_at hl 0 rfl) ?_
    refine lv_iload_n hx hb dX12_prove_10 rfl (lv_at hl 1 rfl) ?_
    refine lv_iconst (v := 0) hx hb dX12_prove_11 (by decide) ?_
    obtain ⟨r_5, m_6, hc_7, h⟩ := bd_some h
    refine c_V (rest := []) X hP hS (tX12_findsPlans hI  hc_7) (by decide) (L_ref _) rfl wt_7_91 wt_7_93 ws_5_0 wt_1_13 wt_7_94 ⟨rfl, hy_X12_findsPlans⟩ ⟨rfl, rfl⟩ ⟨Nat.le_of_ble_eq_true rfl, Nat.le_of_ble_eq_true rfl⟩ rfl hl.1 rfl (Nat.le_of_ble_eq_true rfl) dX12_prove_12 rfl (fun H locs hP hS => ?_)
    refine lv_aload_n hx hb dX12_prove_15 rfl (lv_at hl 0 rfl) ?_
    refine lv_iconst (v := 0) hx hb dX12_prove_16 (by decide) ?_
    obtain ⟨r_8, m_9, hc_10, h⟩ := bd_some h
    refine c_V (rest := []) X hP hS (tX12_laysAside hI  hc_10) (by decide) (L_ref _) rfl wt_7_28 wt_7_30 ws_4_9 wt_1_13 wt_7_31 ⟨rfl, hy_X12_laysAside⟩ ⟨rfl, rfl⟩ ⟨Nat.le_of_ble_eq_true rfl, Nat.le_of_ble_eq_true rfl⟩ rfl hl.1 rfl (Nat.le_of_ble_eq_true rfl) dX12_prove_17 rfl (fun H locs hP hS => ?_)
    refine lv_iconst (v := 0) hx hb dX12_prove_20 (by decide) ?_
    refine lv_istore_n (lv' := [(2, .int 0), (0, .ref (A 0)), (1, .int a1)]) hx hb dX12_prove_21 rfl hl (by decide) rfl (fun ls hl => ?_)
    exact tX12_prove_22 hI    X FL 0 m_9 _ _ _  h hP hS (lv_sub hl [1, 0] rfl)
  · have h := ifp c_4 h
    refine lv_iconst (v := (-1)) hx hb dX12_prove_7 (by decide) ?_
    exact r_iret X hP hS dX12_prove_8 h

def fX12_isRow (a1 : Int32) (a2 : Int32) (m : Mm) : Option (Int32 × Mm) := bd (fX12_isIn (Int32.toInt64 a1) (0 : Int64) (Int32.toInt64 ((m 0 26) - 1)) m) fun r_1 m_2 => (if r_1 = 0 then some (0, m_2) else bd (fX12_isIn (Int32.toInt64 a2) (0 : Int64) (2 : Int64) m_2) fun r_5 m_6 => (if r_5 = 0 then some (0, m_6) else some (1, m_6)))
set_option maxHeartbeats 4000000 in
set_option maxRecDepth 100000 in
theorem tX12_isRow {l : Launch} {D : va_G} {cA : Nat → ClassId} {A : Nat → Nat} (hI : InjA rN A) {a1 : Int32} {a2 : Int32} {m m' : Mm} {r : Int32} (h : fX12_isRow a1 a2 m = some (r, m')) : Met0 l yX12_isRow cX12_isRow 3 (some .boolean) { frames := 1, cells := 0, slots := 0, locals := 25 } rLay rN D cA A [.ref (A 0), .int a1, .int a2] m (some (.int r)) m' := by
  refine met0_of (by decide) (Nat.le_of_ble_eq_true rfl) hI ?_
  intro p e s m0 below meth c ls X hinit hP hS hl
  generalize ([.ref (A 0), .int a1, .int a2] : List Value).toArray = args at X ⊢
  have hl : lv_has ls 3 [(0, .ref (A 0)), (1, .int a1), (2, .int a2)] := hl
  have X : CX rLay rN D cA A p s m0 args meth c "BenchTowelsModel" cX12_isRow 3 (some .boolean) := X
  have hx := X.1
  have hb := X.2.1
  have hml := X.2.2.1
  have hown := X.2.2.2.1
  have hts := X.2.2.2.2.1
  have hF := X.2.2.2.2.2.2.2.2.1
  rewrite [fX12_isRow] at h
  refine lv_iload_n hx hb dX12_isRow_0 rfl (lv_at hl 1 rfl) ?_
  refine lv_i2l hx hb dX12_isRow_1 rfl ?_
  refine lv_lconst (v := 0) hx hb dX12_isRow_2 (by decide) ?_
  refine lv_aload_n hx hb dX12_isRow_3 rfl (lv_at hl 0 rfl) ?_
  refine r_get kc_12 26 X hP (by decide) (L_ref _) (by decide) rfl wt_5_198 dX12_isRow_4 ?_
  refine lv_iconst (v := 1) hx hb dX12_isRow_7 (by decide) ?_
  refine lv_isub hx hb dX12_isRow_8 ?_
  refine lv_i2l hx hb dX12_isRow_9 rfl ?_
  obtain ⟨r_1, m_2, hc_3, h⟩ := bd_some h
  refine c_S (rest := []) X hP hS (tX12_isIn hI  hc_3) wt_6_55 wt_6_56 wt_1_13 wt_6_57 hy_X12_isIn ⟨rfl, rfl⟩ ⟨Nat.le_of_ble_eq_true rfl, Nat.le_of_ble_eq_true rfl⟩ rfl hl.1 rfl (Nat.le_of_ble_eq_true rfl) dX12_isRow_10 rfl (fun H locs hP hS => ?_)
  refine lv_if_eq (tgt := 32) hx hb dX12_isRow_13 (by decide) (fun c_4 => ?_) (fun c_4 => ?_)
  · have h := ifp c_4 h
    refine lv_iconst (v := 0) hx hb dX12_isRow_32 (by decide) ?_
    exact r_zret X (Or.inl rfl) hP hS dX12_isRow_33 h
  · have h := ifn c_4 h
    refine lv_iload_n hx hb dX12_isRow_16 rfl (lv_at hl 2 rfl) ?_
    refine lv_i2l hx hb dX12_isRow_17 rfl ?_
    refine lv_lconst (v := 0) hx hb dX12_isRow_18 (by decide) ?_
    refine lv_ldc2 (v := 2) hx hb hown (hts _ wt_6_62) dX12_isRow_19 ?_
    obtain ⟨r_5, m_6, hc_7, h⟩ := bd_some h
    refine c_S (rest := []) X hP hS (tX12_isIn hI  hc_7) wt_6_55 wt_6_56 wt_1_13 wt_6_57 hy_X12_isIn ⟨rfl, rfl⟩ ⟨Nat.le_of_ble_eq_true rfl, Nat.le_of_ble_eq_true rfl⟩ rfl hl.1 rfl (Nat.le_of_ble_eq_true rfl) dX12_isRow_22 rfl (fun H locs hP hS => ?_)
    refine lv_if_eq (tgt := 32) hx hb dX12_isRow_25 (by decide) (fun c_8 => ?_) (fun c_8 => ?_)
    · have h := ifp c_8 h
      refine lv_iconst (v := 0) hx hb dX12_isRow_32 (by decide) ?_
      exact r_zret X (Or.inl rfl) hP hS dX12_isRow_33 h
    · have h := ifn c_8 h
      refine lv_iconst (v := 1) hx hb dX12_isRow_28 (by decide) ?_
      refine lv_goto (tgt := 33) hx hb dX12_isRow_29 (by decide) ?_
      exact r_zret X (Or.inr rfl) hP hS dX12_isRow_33 h

def fX12_row (a1 : Int32) (a2 : Int32) (m : Mm) : Option (Int32 × Mm) := bd (fX12_isRow a1 a2 m) fun r_1 m_2 => (if r_1 = 0 then some ((-9), m_2) else gx (((3 : Int32) * a1) + a2) 12 (some ((m_2 8 (ix (((3 : Int32) * a1) + a2))), m_2)))
set_option maxHeartbeats 4000000 in
set_option maxRecDepth 100000 in
theorem tX12_row {l : Launch} {D : va_G} {cA : Nat → ClassId} {A : Nat → Nat} (hI : InjA rN A) {a1 : Int32} {a2 : Int32} {m m' : Mm} {r : Int32} (h : fX12_row a1 a2 m = some (r, m')) : Met0 l yX12_row cX12_row 3 (some .int) { frames := 2, cells := 0, slots := 0, locals := 47 } rLay rN D cA A [.ref (A 0), .int a1, .int a2] m (some (.int r)) m' := by
  refine met0_of (by decide) (Nat.le_of_ble_eq_true rfl) hI ?_
  intro p e s m0 below meth c ls X hinit hP hS hl
  generalize ([.ref (A 0), .int a1, .int a2] : List Value).toArray = args at X ⊢
  have hl : lv_has ls 3 [(0, .ref (A 0)), (1, .int a1), (2, .int a2)] := hl
  have X : CX rLay rN D cA A p s m0 args meth c "BenchTowelsModel" cX12_row 3 (some .int) := X
  have hx := X.1
  have hb := X.2.1
  have hml := X.2.2.1
  have hown := X.2.2.2.1
  have hts := X.2.2.2.2.1
  have hF := X.2.2.2.2.2.2.2.2.1
  rewrite [fX12_row] at h
  refine lv_aload_n hx hb dX12_row_0 rfl (lv_at hl 0 rfl) ?_
  refine lv_iload_n hx hb dX12_row_1 rfl (lv_at hl 1 rfl) ?_
  refine lv_iload_n hx hb dX12_row_2 rfl (lv_at hl 2 rfl) ?_
  obtain ⟨r_1, m_2, hc_3, h⟩ := bd_some h
  refine c_V (rest := []) X hP hS (tX12_isRow hI  hc_3) (by decide) (L_ref _) rfl wt_7_180 wt_7_182 ws_5_6 wt_1_13 wt_7_183 ⟨rfl, hy_X12_isRow⟩ ⟨rfl, rfl⟩ ⟨Nat.le_of_ble_eq_true rfl, Nat.le_of_ble_eq_true rfl⟩ rfl hl.1 rfl (Nat.le_of_ble_eq_true rfl) dX12_row_3 rfl (fun H locs hP hS => ?_)
  refine lv_if_eq (tgt := 22) hx hb dX12_row_6 (by decide) (fun c_4 => ?_) (fun c_4 => ?_)
  · have h := ifp c_4 h
    refine lv_bipush (v := (-9)) hx hb dX12_row_22 (by decide) ?_
    exact r_iret X hP hS dX12_row_24 h
  · have h := ifn c_4 h
    refine lv_aload_n hx hb dX12_row_9 rfl (lv_at hl 0 rfl) ?_
    refine r_get kc_12 25 X hP (by decide) (L_ref _) (by decide) rfl wt_5_197 dX12_row_10 ?_
    refine lv_iconst (v := 3) hx hb dX12_row_13 (by decide) ?_
    refine lv_iload_n hx hb dX12_row_14 rfl (lv_at hl 1 rfl) ?_
    refine lv_imul hx hb dX12_row_15 ?_
    refine lv_iload_n hx hb dX12_row_16 rfl (lv_at hl 2 rfl) ?_
    refine lv_iadd hx hb dX12_row_17 ?_
    obtain ⟨hin_5, h⟩ := gx_some h
    refine r_iald X hP (by decide) (Lr_8 _) hin_5 rfl dX12_row_18 ?_
    refine lv_goto (tgt := 24) hx hb dX12_row_19 (by decide) ?_
    exact r_iret X hP hS dX12_row_24 h

def fX12_alterRow (a1 : Int32) (a2 : Int32) (a3 : Int32) (m : Mm) : Option (Int32 × Mm) := bd (fX12_isRow a1 a2 m) fun r_1 m_2 => (if r_1 = 0 then some ((-9), m_2) else gx (((3 : Int32) * a1) + a2) 12 (lt (m_2 8 (ix (((3 : Int32) * a1) + a2))) fun x4_6 => lt (up m_2 8 (ix (((3 : Int32) * a1) + a2)) a3) fun m_8 => some (x4_6, m_8)))
set_option maxHeartbeats 4000000 in
set_option maxRecDepth 100000 in
theorem tX12_alterRow {l : Launch} {D : va_G} {cA : Nat → ClassId} {A : Nat → Nat} (hI : InjA rN A) {a1 : Int32} {a2 : Int32} {a3 : Int32} {m m' : Mm} {r : Int32} (h : fX12_alterRow a1 a2 a3 m = some (r, m')) : Met0 l yX12_alterRow cX12_alterRow 5 (some .int) { frames := 2, cells := 0, slots := 0, locals := 47 } rLay rN D cA A [.ref (A 0), .int a1, .int a2, .int a3] m (some (.int r)) m' := by
  refine met0_of (by decide) (Nat.le_of_ble_eq_true rfl) hI ?_
  intro p e s m0 below meth c ls X hinit hP hS hl
  generalize ([.ref (A 0), .int a1, .int a2, .int a3] : List Value).toArray = args at X ⊢
  have hl : lv_has ls 5 [(0, .ref (A 0)), (1, .int a1), (2, .int a2), (3, .int a3)] := hl
  have X : CX rLay rN D cA A p s m0 args meth c "BenchTowelsModel" cX12_alterRow 5 (some .int) := X
  have hx := X.1
  have hb := X.2.1
  have hml := X.2.2.1
  have hown := X.2.2.2.1
  have hts := X.2.2.2.2.1
  have hF := X.2.2.2.2.2.2.2.2.1
  rewrite [fX12_alterRow] at h
  refine lv_aload_n hx hb dX12_alterRow_0 rfl (lv_at hl 0 rfl) ?_
  refine lv_iload_n hx hb dX12_alterRow_1 rfl (lv_at hl 1 rfl) ?_
  refine lv_iload_n hx hb dX12_alterRow_2 rfl (lv_at hl 2 rfl) ?_
  obtain ⟨r_1, m_2, hc_3, h⟩ := bd_some h
  refine c_V (rest := []) X hP hS (tX12_isRow hI  hc_3) (by decide) (L_ref _) rfl wt_7_180 wt_7_182 ws_5_6 wt_1_13 wt_7_183 ⟨rfl, hy_X12_isRow⟩ ⟨rfl, rfl⟩ ⟨Nat.le_of_ble_eq_true rfl, Nat.le_of_ble_eq_true rfl⟩ rfl hl.1 rfl (Nat.le_of_ble_eq_true rfl) dX12_alterRow_3 rfl (fun H locs hP hS => ?_)
  refine lv_if_ne (tgt := 12) hx hb dX12_alterRow_6 (by decide) (fun c_4 => ?_) (fun c_4 => ?_)
  · have h := ifn c_4 h
    refine lv_aload_n hx hb dX12_alterRow_12 rfl (lv_at hl 0 rfl) ?_
    refine r_get kc_12 25 X hP (by decide) (L_ref _) (by decide) rfl wt_5_197 dX12_alterRow_13 ?_
    refine lv_iconst (v := 3) hx hb dX12_alterRow_16 (by decide) ?_
    refine lv_iload_n hx hb dX12_alterRow_17 rfl (lv_at hl 1 rfl) ?_
    refine lv_imul hx hb dX12_alterRow_18 ?_
    refine lv_iload_n hx hb dX12_alterRow_19 rfl (lv_at hl 2 rfl) ?_
    refine lv_iadd hx hb dX12_alterRow_20 ?_
    obtain ⟨hin_5, h⟩ := gx_some h
    refine r_iald X hP (by decide) (Lr_8 _) hin_5 rfl dX12_alterRow_21 ?_
    obtain ⟨x4_6, ex_7, h⟩ := lt_some h
    refine lv_ren ex_7 ?_
    refine lv_istore (lv' := [(4, .int x4_6), (0, .ref (A 0)), (1, .int a1), (2, .int a2), (3, .int a3)]) hx hb dX12_alterRow_22 hl (by decide) rfl (fun ls hl => ?_)
    refine lv_aload_n hx hb dX12_alterRow_24 rfl (lv_at hl 1 rfl) ?_
    refine r_get kc_12 25 X hP (by decide) (L_ref _) (by decide) rfl wt_5_197 dX12_alterRow_25 ?_
    refine lv_iconst (v := 3) hx hb dX12_alterRow_28 (by decide) ?_
    refine lv_iload_n hx hb dX12_alterRow_29 rfl (lv_at hl 2 rfl) ?_
    refine lv_imul hx hb dX12_alterRow_30 ?_
    refine lv_iload_n hx hb dX12_alterRow_31 rfl (lv_at hl 3 rfl) ?_
    refine lv_iadd hx hb dX12_alterRow_32 ?_
    refine lv_iload_n hx hb dX12_alterRow_33 rfl (lv_at hl 4 rfl) ?_
    obtain ⟨m_8, em_9, h⟩ := lt_some h
    refine r_iast X hP hS (by decide) Lr_8 hin_5 rfl dX12_alterRow_34 em_9 (fun H locs hP hS => ?_)
    refine lv_iload hx hb dX12_alterRow_35 (lv_at hl 0 rfl) ?_
    exact r_iret X hP hS dX12_alterRow_37 h
  · have h := ifp c_4 h
    refine lv_bipush (v := (-9)) hx hb dX12_alterRow_9 (by decide) ?_
    exact r_iret X hP hS dX12_alterRow_11 h

def fX12_isAct (a1 : Int32) (m : Mm) : Option (Int32 × Mm) := bd (fX12_isIn (Int32.toInt64 a1) (0 : Int64) (Int32.toInt64 (m 1 0)) m) fun r_1 m_2 => gb r_1 (some (r_1, m_2))
set_option maxHeartbeats 4000000 in
set_option maxRecDepth 100000 in
theorem tX12_isAct {l : Launch} {D : va_G} {cA : Nat → ClassId} {A : Nat → Nat} (hI : InjA rN A) {a1 : Int32} {m m' : Mm} {r : Int32} (h : fX12_isAct a1 m = some (r, m')) : Met0 l yX12_isAct cX12_isAct 2 (some .boolean) { frames := 1, cells := 0, slots := 0, locals := 25 } rLay rN D cA A [.ref (A 0), .int a1] m (some (.int r)) m' := by
  refine met0_of (by decide) (Nat.le_of_ble_eq_true rfl) hI ?_
  intro p e s m0 below meth c ls X hinit hP hS hl
  generalize ([.ref (A 0), .int a1] : List Value).toArray = args at X ⊢
  have hl : lv_has ls 2 [(0, .ref (A 0)), (1, .int a1)] := hl
  have X : CX rLay rN D cA A p s m0 args meth c "BenchTowelsModel" cX12_isAct 2 (some .boolean) := X
  have hx := X.1
  have hb := X.2.1
  have hml := X.2.2.1
  have hown := X.2.2.2.1
  have hts := X.2.2.2.2.1
  have hF := X.2.2.2.2.2.2.2.2.1
  rewrite [fX12_isAct] at h
  refine lv_iload_n hx hb dX12_isAct_0 rfl (lv_at hl 1 rfl) ?_
  refine lv_i2l hx hb dX12_isAct_1 rfl ?_
  refine lv_lconst (v := 0) hx hb dX12_isAct_2 (by decide) ?_
  refine lv_aload_n hx hb dX12_isAct_3 rfl (lv_at hl 0 rfl) ?_
  refine r_get kc_12 0 X hP (by decide) (L_ref _) (by decide) rfl wt_5_172 dX12_isAct_4 ?_
  refine lv_iconst (v := 0) hx hb dX12_isAct_7 (by decide) ?_
  refine r_iald X hP (by decide) (Lr_1 _) (vpc (by decide)) ixc_0 dX12_isAct_8 ?_
  refine lv_i2l hx hb dX12_isAct_9 rfl ?_
  obtain ⟨r_1, m_2, hc_3, h⟩ := bd_some h
  refine c_S (rest := []) X hP hS (tX12_isIn hI  hc_3) wt_6_55 wt_6_56 wt_1_13 wt_6_57 hy_X12_isIn ⟨rfl, rfl⟩ ⟨Nat.le_of_ble_eq_true rfl, Nat.le_of_ble_eq_true rfl⟩ rfl hl.1 rfl (Nat.le_of_ble_eq_true rfl) dX12_isAct_10 rfl (fun H locs hP hS => ?_)
  obtain ⟨hz_4, h⟩ := gb_some h
  exact r_zret X hz_4 hP hS dX12_isAct_13 h

def fX12_judge_97  (x1 : Int32) (x2 : Int32) (m : Mm) : Option (Int32 × Mm) := bd (fX12_laysBack (0 : Int32) m) fun r_5 m_6 => (if x2 = 0 then some (x1, m_6) else some (0, m_6))
set_option maxHeartbeats 4000000 in
set_option maxRecDepth 100000 in
theorem tX12_judge_97 (hI : InjA rN A)  {r : Int32} {m' : Mm} (X : CX rLay rN D cA A p s m0 args meth c "BenchTowelsModel" cX12_judge 3 (some .int)) : ∀ (x1 : Int32) (x2 : Int32) (m : Mm) (H : Heap) (locs : List Loc) (ls : Array Slot), fX12_judge_97 x1 x2 m = some (r, m') → va_P D vwCl (wsOf rLay rN cA A m) H → va_S (AW rN A) s.heap H locs → lv_has ls 3 [(0, .ref (A 0)), (1, .int x1), (2, .int x2)] → W p l e { frames := 5, cells := 0, slots := 0, locals := 120 } s m0 args below meth c H locs 0 0 (ZR below args s rLay rN D cA A (some (.int r)) m') (F0 m0 97 ls []) := by
  have hx := X.1
  have hb := X.2.1
  have hml := X.2.2.1
  have hown := X.2.2.2.1
  have hts := X.2.2.2.2.1
  have hF := X.2.2.2.2.2.2.2.2.1
  intro x1 x2 m H locs ls h hP hS hl
  rewrite [fX12_judge_97] at h
  refine lv_aload_n hx hb dX12_judge_97 rfl (lv_at hl 0 rfl) ?_
  refine lv_iconst (v := 0) hx hb dX12_judge_98 (by decide) ?_
  obtain ⟨r_5, m_6, hc_7, h⟩ := bd_some h
  refine c_V (rest := []) X hP hS (tX12_laysBack hI  hc_7) (by decide) (L_ref _) rfl wt_7_32 wt_7_34 ws_4_10 wt_1_13 wt_7_35 ⟨rfl, hy_X12_laysBack⟩ ⟨rfl, rfl⟩ ⟨Nat.le_of_ble_eq_true rfl, Nat.le_of_ble_eq_true rfl⟩ rfl hl.1 rfl (Nat.le_of_ble_eq_true rfl) dX12_judge_99 rfl (fun H locs hP hS => ?_)
  refine lv_iload_n hx hb dX12_judge_102 rfl (lv_at hl 2 rfl) ?_
  refine lv_if_eq (tgt := 110) hx hb dX12_judge_103 (by decide) (fun c_8 => ?_) (fun c_8 => ?_)
  · have h := ifp c_8 h
    refine lv_iload_n hx hb dX12_judge_110 rfl (lv_at hl 1 rfl) ?_
    exact r_iret X hP hS dX12_judge_111 h
  · have h := ifn c_8 h
    refine lv_iconst (v := 0) hx hb dX12_judge_106 (by decide) ?_
    refine lv_goto (tgt := 111) hx hb dX12_judge_107 (by decide) ?_
    exact r_iret X hP hS dX12_judge_111 h

def fX12_judge_9  : Nat → Int32 → Int32 → Mm → Option (Int32 × Mm)
  | 0, _, _, _ => none
  | n + 1, x1, x2, m => (if ((m 0 26) : Int32) ≤ x1 then fX12_judge_97  x1 x2 m else (if x2 = 0 then fX12_judge_97  x1 x2 m else gx ((3 : Int32) * x1) 12 (bd (fX12_isAct (m 8 (ix ((3 : Int32) * x1))) m) fun r_11 m_12 => (if r_11 = 0 then lt ((x1 : Int32) + 1) fun x1_15 => (fX12_judge_9 n x1_15 0 m_12) else bd (fX12_isOver m_12) fun r_17 m_18 => (if r_17 = 0 then bd (fX12_goesWith (m_18 8 (ix ((3 : Int32) * x1))) m_18) fun r_23 m_24 => gx (((3 : Int32) * x1) + 1) 12 ((if r_23 = (m_24 8 (ix (((3 : Int32) * x1) + 1))) then bd (fX12_noneLeft m_24) fun r_30 m_31 => gx (((3 : Int32) * x1) + 2) 12 ((if r_30 = (m_31 8 (ix (((3 : Int32) * x1) + 2))) then lt ((x1 : Int32) + 1) fun x1_37 => (fX12_judge_9 n x1_37 1 m_31) else lt ((x1 : Int32) + 1) fun x1_35 => (fX12_judge_9 n x1_35 0 m_31))) else lt ((x1 : Int32) + 1) fun x1_28 => (fX12_judge_9 n x1_28 0 m_24))) else lt ((x1 : Int32) + 1) fun x1_21 => (fX12_judge_9 n x1_21 0 m_18))))))
set_option maxHeartbeats 4000000 in
set_option maxRecDepth 100000 in
theorem tX12_judge_9 (hI : InjA rN A)  {r : Int32} {m' : Mm} (X : CX rLay rN D cA A p s m0 args meth c "BenchTowelsModel" cX12_judge 3 (some .int)) : ∀ (n : Nat) (x1 : Int32) (x2 : Int32) (m : Mm) (H : Heap) (locs : List Loc) (ls : Array Slot), fX12_judge_9 n x1 x2 m = some (r, m') → va_P D vwCl (wsOf rLay rN cA A m) H → va_S (AW rN A) s.heap H locs → lv_has ls 3 [(0, .ref (A 0)), (1, .int x1), (2, .int x2)] → W p l e { frames := 5, cells := 0, slots := 0, locals := 120 } s m0 args below meth c H locs 0 0 (ZR below args s rLay rN D cA A (some (.int r)) m') (F0 m0 9 ls []) := by
  have hx := X.1
  have hb := X.2.1
  have hml := X.2.2.1
  have hown := X.2.2.2.1
  have hts := X.2.2.2.2.1
  have hF := X.2.2.2.2.2.2.2.2.1
  intro n
  induction n with
  | zero =>
    intro x1 x2 m H locs ls h hP hS hl
    exact absurd h (by rewrite [fX12_judge_9]; exact fun q => by cases q)
  | succ n ih =>
    intro x1 x2 m H locs ls h hP hS hl
    rewrite [fX12_judge_9] at h
    refine lv_iload_n hx hb dX12_judge_9 rfl (lv_at hl 1 rfl) ?_
    refine lv_aload_n hx hb dX12_judge_10 rfl (lv_at hl 0 rfl) ?_
    refine r_get kc_12 26 X hP (by decide) (L_ref _) (by decide) rfl wt_5_198 dX12_judge_11 ?_
    refine lv_icmp_ge (tgt := 97) hx hb dX12_judge_14 (by decide) (fun c_4 => ?_) (fun c_4 => ?_)
    · have h := ifp c_4 h
      exact tX12_judge_97 hI    X x1 x2 m _ _ _  h hP hS (lv_sub hl [0, 1, 2] rfl)
    · have h := ifn c_4 h
      refine lv_iload_n hx hb dX12_judge_17 rfl (lv_at hl 2 rfl) ?_
      refine lv_if_eq (tgt := 97) hx hb dX12_judge_18 (by decide) (fun c_9 => ?_) (fun c_9 => ?_)
      · have h := ifp c_9 h
        exact tX12_judge_97 hI    X x1 x2 m _ _ _  h hP hS (lv_sub hl [0, 1, 2] rfl)
      · have h := ifn c_9 h
        refine lv_aload_n hx hb dX12_judge_21 rfl (lv_at hl 0 rfl) ?_
        refine lv_aload_n hx hb dX12_judge_22 rfl (lv_at hl 0 rfl) ?_
        refine r_get kc_12 25 X hP (by decide) (L_ref _) (by decide) rfl wt_5_197 dX12_judge_23 ?_
        refine lv_iconst (v := 3) hx hb dX12_judge_26 (by decide) ?_
        refine lv_iload_n hx hb dX12_judge_27 rfl (lv_at hl 1 rfl) ?_
        refine lv_imul hx hb dX12_judge_28 ?_
        obtain ⟨hin_10, h⟩ := gx_some h
        refine r_iald X hP (by decide) (Lr_8 _) hin_10 rfl dX12_judge_29 ?_
        obtain ⟨r_11, m_12, hc_13, h⟩ := bd_some h
        refine c_V (rest := []) X hP hS (tX12_isAct hI  hc_13) (by decide) (L_ref _) rfl wt_7_192 wt_7_194 ws_5_7 wt_1_13 wt_7_195 ⟨rfl, hy_X12_isAct⟩ ⟨rfl, rfl⟩ ⟨Nat.le_of_ble_eq_true rfl, Nat.le_of_ble_eq_true rfl⟩ rfl hl.1 rfl (Nat.le_of_ble_eq_true rfl) dX12_judge_30 rfl (fun H locs hP hS => ?_)
        refine lv_if_eq (tgt := 89) hx hb dX12_judge_33 (by decide) (fun c_14 => ?_) (fun c_14 => ?_)
        · have h := ifp c_14 h
          refine lv_iconst (v := 0) hx hb dX12_judge_89 (by decide) ?_
          refine lv_istore_n (lv' := [(2, .int 0), (0, .ref (A 0)), (1, .int x1)]) hx hb dX12_judge_90 rfl hl (by decide) rfl (fun ls hl => ?_)
          obtain ⟨x1_15, ex_16, h⟩ := lt_some h
          refine lv_iinc (v := x1_15) (lv' := [(1, .int x1_15), (2, .int 0), (0, .ref (A 0))]) hx hb dX12_judge_91 hl (k := 2) rfl (by rw [ex_16]; rfl) (by decide) rfl (fun ls hl => ?_)
          refine lv_goto (tgt := 9) hx hb dX12_judge_94 (by decide) ?_
          exact ih x1_15 0 m_12 _ _ _  h hP hS (lv_sub hl [2, 0, 1] rfl)
        · have h := ifn c_14 h
          refine lv_aload_n hx hb dX12_judge_36 rfl (lv_at hl 0 rfl) ?_
          obtain ⟨r_17, m_18, hc_19, h⟩ := bd_some h
          refine c_V (rest := []) X hP hS (tX12_isOver hI  hc_19) (by decide) (L_ref _) rfl wt_6_147 wt_6_149 ws_3_2 wt_1_13 wt_6_150 ⟨rfl, hy_X12_isOver⟩ ⟨rfl, rfl⟩ ⟨Nat.le_of_ble_eq_true rfl, Nat.le_of_ble_eq_true rfl⟩ rfl hl.1 rfl (Nat.le_of_ble_eq_true rfl) dX12_judge_37 rfl (fun H locs hP hS => ?_)
          refine lv_if_ne (tgt := 89) hx hb dX12_judge_40 (by decide) (fun c_20 => ?_) (fun c_20 => ?_)
          · have h := ifn c_20 h
            refine lv_iconst (v := 0) hx hb dX12_judge_89 (by decide) ?_
            refine lv_istore_n (lv' := [(2, .int 0), (0, .ref (A 0)), (1, .int x1)]) hx hb dX12_judge_90 rfl hl (by decide) rfl (fun ls hl => ?_)
            obtain ⟨x1_21, ex_22, h⟩ := lt_some h
            refine lv_iinc (v := x1_21) (lv' := [(1, .int x1_21), (2, .int 0), (0, .ref (A 0))]) hx hb dX12_judge_91 hl (k := 2) rfl (by rw [ex_22]; rfl) (by decide) rfl (fun ls hl => ?_)
            refine lv_goto (tgt := 9) hx hb dX12_judge_94 (by decide) ?_
            exact ih x1_21 0 m_18 _ _ _  h hP hS (lv_sub hl [2, 0, 1] rfl)
          · have h := ifp c_20 h
            refine lv_aload_n hx hb dX12_judge_43 rfl (lv_at hl 0 rfl) ?_
            refine lv_aload_n hx hb dX12_judge_44 rfl (lv_at hl 0 rfl) ?_
            refine r_get kc_12 25 X hP (by decide) (L_ref _) (by decide) rfl wt_5_197 dX12_judge_45 ?_
            refine lv_iconst (v := 3) hx hb dX12_judge_48 (by decide) ?_
            refine lv_iload_n hx hb dX12_judge_49 rfl (lv_at hl 1 rfl) ?_
            refine lv_imul hx hb dX12_judge_50 ?_
            refine r_iald X hP (by decide) (Lr_8 _) hin_10 rfl dX12_judge_51 ?_
            obtain ⟨r_23, m_24, hc_25, h⟩ := bd_some h
            refine c_V (rest := []) X hP hS (tX12_goesWith hI  hc_25) (by decide) (L_ref _) rfl wt_7_6 wt_7_8 ws_4_6 wt_1_13 wt_7_9 ⟨rfl, hy_X12_goesWith⟩ ⟨rfl, rfl⟩ ⟨Nat.le_of_ble_eq_true rfl, Nat.le_of_ble_eq_true rfl⟩ rfl hl.1 rfl (Nat.le_of_ble_eq_true rfl) dX12_judge_52 rfl (fun H locs hP hS => ?_)
            refine lv_aload_n hx hb dX12_judge_55 rfl (lv_at hl 0 rfl) ?_
            refine r_get kc_12 25 X hP (by decide) (L_ref _) (by decide) rfl wt_5_197 dX12_judge_56 ?_
            refine lv_iconst (v := 3) hx hb dX12_judge_59 (by decide) ?_
            refine lv_iload_n hx hb dX12_judge_60 rfl (lv_at hl 1 rfl) ?_
            refine lv_imul hx hb dX12_judge_61 ?_
            refine lv_iconst (v := 1) hx hb dX12_judge_62 (by decide) ?_
            refine lv_iadd hx hb dX12_judge_63 ?_
            obtain ⟨hin_26, h⟩ := gx_some h
            refine r_iald X hP (by decide) (Lr_8 _) hin_26 rfl dX12_judge_64 ?_
            refine lv_icmp_ne (tgt := 89) hx hb dX12_judge_65 (by decide) (fun c_27 => ?_) (fun c_27 => ?_)
            · have h := ifn c_27 h
              refine lv_iconst (v := 0) hx hb dX12_judge_89 (by decide) ?_
              refine lv_istore_n (lv' := [(2, .int 0), (0, .ref (A 0)), (1, .int x1)]) hx hb dX12_judge_90 rfl hl (by decide) rfl (fun ls hl => ?_)
              obtain ⟨x1_28, ex_29, h⟩ := lt_some h
              refine lv_iinc (v := x1_28) (lv' := [(1, .int x1_28), (2, .int 0), (0, .ref (A 0))]) hx hb dX12_judge_91 hl (k := 2) rfl (by rw [ex_29]; rfl) (by decide) rfl (fun ls hl => ?_)
              refine lv_goto (tgt := 9) hx hb dX12_judge_94 (by decide) ?_
              exact ih x1_28 0 m_24 _ _ _  h hP hS (lv_sub hl [2, 0, 1] rfl)
            · have h := ifp c_27 h
              refine lv_aload_n hx hb dX12_judge_68 rfl (lv_at hl 0 rfl) ?_
              obtain ⟨r_30, m_31, hc_32, h⟩ := bd_some h
              refine c_V (rest := []) X hP hS (tX12_noneLeft hI  hc_32) (by decide) (L_ref _) rfl wt_6_151 wt_6_153 ws_3_3 wt_1_13 wt_6_154 ⟨rfl, hy_X12_noneLeft⟩ ⟨rfl, rfl⟩ ⟨Nat.le_of_ble_eq_true rfl, Nat.le_of_ble_eq_true rfl⟩ rfl hl.1 rfl (Nat.le_of_ble_eq_true rfl) dX12_judge_69 rfl (fun H locs hP hS => ?_)
              refine lv_aload_n hx hb dX12_judge_72 rfl (lv_at hl 0 rfl) ?_
              refine r_get kc_12 25 X hP (by decide) (L_ref _) (by decide) rfl wt_5_197 dX12_judge_73 ?_
              refine lv_iconst (v := 3) hx hb dX12_judge_76 (by decide) ?_
              refine lv_iload_n hx hb dX12_judge_77 rfl (lv_at hl 1 rfl) ?_
              refine lv_imul hx hb dX12_judge_78 ?_
              refine lv_iconst (v := 2) hx hb dX12_judge_79 (by decide) ?_
              refine lv_iadd hx hb dX12_judge_80 ?_
              obtain ⟨hin_33, h⟩ := gx_some h
              refine r_iald X hP (by decide) (Lr_8 _) hin_33 rfl dX12_judge_81 ?_
              refine lv_icmp_ne (tgt := 89) hx hb dX12_judge_82 (by decide) (fun c_34 => ?_) (fun c_34 => ?_)
              · have h := ifn c_34 h
                refine lv_iconst (v := 0) hx hb dX12_judge_89 (by decide) ?_
                refine lv_istore_n (lv' := [(2, .int 0), (0, .ref (A 0)), (1, .int x1)]) hx hb dX12_judge_90 rfl hl (by decide) rfl (fun ls hl => ?_)
                obtain ⟨x1_35, ex_36, h⟩ := lt_some h
                refine lv_iinc (v := x1_35) (lv' := [(1, .int x1_35), (2, .int 0), (0, .ref (A 0))]) hx hb dX12_judge_91 hl (k := 2) rfl (by rw [ex_36]; rfl) (by decide) rfl (fun ls hl => ?_)
                refine lv_goto (tgt := 9) hx hb dX12_judge_94 (by decide) ?_
                exact ih x1_35 0 m_31 _ _ _  h hP hS (lv_sub hl [2, 0, 1] rfl)
              · have h := ifp c_34 h
                refine lv_iconst (v := 1) hx hb dX12_judge_85 (by decide) ?_
                refine lv_goto (tgt := 90) hx hb dX12_judge_86 (by decide) ?_
                refine lv_istore_n (lv' := [(2, .int 1), (0, .ref (A 0)), (1, .int x1)]) hx hb dX12_judge_90 rfl hl (by decide) rfl (fun ls hl => ?_)
                obtain ⟨x1_37, ex_38, h⟩ := lt_some h
                refine lv_iinc (v := x1_37) (lv' := [(1, .int x1_37), (2, .int 1), (0, .ref (A 0))]) hx hb dX12_judge_91 hl (k := 2) rfl (by rw [ex_38]; rfl) (by decide) rfl (fun ls hl => ?_)
                refine lv_goto (tgt := 9) hx hb dX12_judge_94 (by decide) ?_
                exact ih x1_37 1 m_31 _ _ _  h hP hS (lv_sub hl [2, 0, 1] rfl)

def fX12_judge  (m : Mm) : Option (Int32 × Mm) := bd (fX12_laysAside (0 : Int32) m) fun r_1 m_2 => (fX12_judge_9  FL 0 1 m_2)
set_option maxHeartbeats 4000000 in
set_option maxRecDepth 100000 in
theorem tX12_judge {l : Launch} {D : va_G} {cA : Nat → ClassId} {A : Nat → Nat} (hI : InjA rN A) {m m' : Mm} {r : Int32} (h : fX12_judge m = some (r, m')) : Met0 l yX12_judge cX12_judge 3 (some .int) { frames := 5, cells := 0, slots := 0, locals := 120 } rLay rN D cA A [.ref (A 0)] m (some (.int r)) m' := by
  refine met0_of (by decide) (Nat.le_of_ble_eq_true rfl) hI ?_
  intro p e s m0 below meth c ls X hinit hP hS hl
  generalize ([.ref (A 0)] : List Value).toArray = args at X ⊢
  have hl : lv_has ls 3 [(0, .ref (A 0))] := hl
  have X : CX rLay rN D cA A p s m0 args meth c "BenchTowelsModel" cX12_judge 3 (some .int) := X
  have hx := X.1
  have hb := X.2.1
  have hml := X.2.2.1
  have hown := X.2.2.2.1
  have hts := X.2.2.2.2.1
  have hF := X.2.2.2.2.2.2.2.2.1
  rewrite [fX12_judge] at h
  refine lv_aload_n hx hb dX12_judge_0 rfl (lv_at hl 0 rfl) ?_
  refine lv_iconst (v := 0) hx hb dX12_judge_1 (by decide) ?_
  obtain ⟨r_1, m_2, hc_3, h⟩ := bd_some h
  refine c_V (rest := []) X hP hS (tX12_laysAside hI  hc_3) (by decide) (L_ref _) rfl wt_7_28 wt_7_30 ws_4_9 wt_1_13 wt_7_31 ⟨rfl, hy_X12_laysAside⟩ ⟨rfl, rfl⟩ ⟨Nat.le_of_ble_eq_true rfl, Nat.le_of_ble_eq_true rfl⟩ rfl hl.1 rfl (Nat.le_of_ble_eq_true rfl) dX12_judge_2 rfl (fun H locs hP hS => ?_)
  refine lv_iconst (v := 0) hx hb dX12_judge_5 (by decide) ?_
  refine lv_istore_n (lv' := [(1, .int 0), (0, .ref (A 0))]) hx hb dX12_judge_6 rfl hl (by decide) rfl (fun ls hl => ?_)
  refine lv_iconst (v := 1) hx hb dX12_judge_7 (by decide) ?_
  refine lv_istore_n (lv' := [(2, .int 1), (1, .int 0), (0, .ref (A 0))]) hx hb dX12_judge_8 rfl hl (by decide) rfl (fun ls hl => ?_)
  exact tX12_judge_9 hI    X FL 0 1 m_2 _ _ _  h hP hS (lv_sub hl [2, 1, 0] rfl)

def fX12_isSheet (a1 : Int32) (m : Mm) : Option (Int32 × Mm) := bd (fX12_isIn (Int32.toInt64 a1) (0 : Int64) (3 : Int64) m) fun r_1 m_2 => gb r_1 (some (r_1, m_2))
set_option maxHeartbeats 4000000 in
set_option maxRecDepth 100000 in
theorem tX12_isSheet {l : Launch} {D : va_G} {cA : Nat → ClassId} {A : Nat → Nat} (hI : InjA rN A) {a1 : Int32} {m m' : Mm} {r : Int32} (h : fX12_isSheet a1 m = some (r, m')) : Met0 l yX12_isSheet cX12_isSheet 1 (some .boolean) { frames := 1, cells := 0, slots := 0, locals := 25 } rLay rN D cA A [.int a1] m (some (.int r)) m' := by
  refine met0_of (by decide) (Nat.le_of_ble_eq_true rfl) hI ?_
  intro p e s m0 below meth c ls X hinit hP hS hl
  generalize ([.int a1] : List Value).toArray = args at X ⊢
  have hl : lv_has ls 1 [(0, .int a1)] := hl
  have X : CX rLay rN D cA A p s m0 args meth c "BenchTowelsModel" cX12_isSheet 1 (some .boolean) := X
  have hx := X.1
  have hb := X.2.1
  have hml := X.2.2.1
  have hown := X.2.2.2.1
  have hts := X.2.2.2.2.1
  have hF := X.2.2.2.2.2.2.2.2.1
  rewrite [fX12_isSheet] at h
  refine lv_iload_n hx hb dX12_isSheet_0 rfl (lv_at hl 0 rfl) ?_
  refine lv_i2l hx hb dX12_isSheet_1 rfl ?_
  refine lv_lconst (v := 0) hx hb dX12_isSheet_2 (by decide) ?_
  refine lv_ldc2 (v := 3) hx hb hown (hts _ wt_7_103) dX12_isSheet_3 ?_
  obtain ⟨r_1, m_2, hc_3, h⟩ := bd_some h
  refine c_S (rest := []) X hP hS (tX12_isIn hI  hc_3) wt_6_55 wt_6_56 wt_1_13 wt_6_57 hy_X12_isIn ⟨rfl, rfl⟩ ⟨Nat.le_of_ble_eq_true rfl, Nat.le_of_ble_eq_true rfl⟩ rfl hl.1 rfl (Nat.le_of_ble_eq_true rfl) dX12_isSheet_6 rfl (fun H locs hP hS => ?_)
  obtain ⟨hz_4, h⟩ := gb_some h
  exact r_zret X hz_4 hP hS dX12_isSheet_9 h

def fX12_isShelf (a1 : Int32) (m : Mm) : Option (Int32 × Mm) := bd (fX12_isIn (Int32.toInt64 a1) (0 : Int64) (3 : Int64) m) fun r_1 m_2 => gb r_1 (some (r_1, m_2))
set_option maxHeartbeats 4000000 in
set_option maxRecDepth 100000 in
theorem tX12_isShelf {l : Launch} {D : va_G} {cA : Nat → ClassId} {A : Nat → Nat} (hI : InjA rN A) {a1 : Int32} {m m' : Mm} {r : Int32} (h : fX12_isShelf a1 m = some (r, m')) : Met0 l yX12_isShelf cX12_isShelf 1 (some .boolean) { frames := 1, cells := 0, slots := 0, locals := 25 } rLay rN D cA A [.int a1] m (some (.int r)) m' := by
  refine met0_of (by decide) (Nat.le_of_ble_eq_true rfl) hI ?_
  intro p e s m0 below meth c ls X hinit hP hS hl
  generalize ([.int a1] : List Value).toArray = args at X ⊢
  have hl : lv_has ls 1 [(0, .int a1)] := hl
  have X : CX rLay rN D cA A p s m0 args meth c "BenchTowelsModel" cX12_isShelf 1 (some .boolean) := X
  have hx := X.1
  have hb := X.2.1
  have hml := X.2.2.1
  have hown := X.2.2.2.1
  have hts := X.2.2.2.2.1
  have hF := X.2.2.2.2.2.2.2.2.1
  rewrite [fX12_isShelf] at h
  refine lv_iload_n hx hb dX12_isShelf_0 rfl (lv_at hl 0 rfl) ?_
  refine lv_i2l hx hb dX12_isShelf_1 rfl ?_
  refine lv_lconst (v := 0) hx hb dX12_isShelf_2 (by decide) ?_
  refine lv_ldc2 (v := 3) hx hb hown (hts _ wt_7_103) dX12_isShelf_3 ?_
  obtain ⟨r_1, m_2, hc_3, h⟩ := bd_some h
  refine c_S (rest := []) X hP hS (tX12_isIn hI  hc_3) wt_6_55 wt_6_56 wt_1_13 wt_6_57 hy_X12_isIn ⟨rfl, rfl⟩ ⟨Nat.le_of_ble_eq_true rfl, Nat.le_of_ble_eq_true rfl⟩ rfl hl.1 rfl (Nat.le_of_ble_eq_true rfl) dX12_isShelf_6 rfl (fun H locs hP hS => ?_)
  obtain ⟨hz_4, h⟩ := gb_some h
  exact r_zret X hz_4 hP hS dX12_isShelf_9 h

def fX12_sheet_69  : Nat → Int32 → Int32 → Mm → Option (Int32 × Mm)
  | 0, _, _, _ => none
  | n + 1, x1, x4, m => (if (40 : Int32) ≤ x4 then some (1, m) else gx (((40 : Int32) * x1) + x4) 160 (lt (up m 11 (ix (((40 : Int32) * x1) + x4)) 0) fun m_19 => lt ((x4 : Int32) + 1) fun x4_21 => (fX12_sheet_69 n x1 x4_21 m_19)))
set_option maxHeartbeats 4000000 in
set_option maxRecDepth 100000 in
theorem tX12_sheet_69 (hI : InjA rN A)  {r : Int32} {m' : Mm} (X : CX rLay rN D cA A p s m0 args meth c "BenchTowelsModel" cX12_sheet 5 (some .int)) : ∀ (n : Nat) (x1 : Int32) (x4 : Int32) (m : Mm) (H : Heap) (locs : List Loc) (ls : Array Slot), fX12_sheet_69 n x1 x4 m = some (r, m') → va_P D vwCl (wsOf rLay rN cA A m) H → va_S (AW rN A) s.heap H locs → lv_has ls 5 [(0, .ref (A 0)), (1, .int x1), (4, .int x4)] → W p l e { frames := 2, cells := 0, slots := 0, locals := 45 } s m0 args below meth c H locs 0 0 (ZR below args s rLay rN D cA A (some (.int r)) m') (F0 m0 69 ls []) := by
  have hx := X.1
  have hb := X.2.1
  have hml := X.2.2.1
  have hown := X.2.2.2.1
  have hts := X.2.2.2.2.1
  have hF := X.2.2.2.2.2.2.2.2.1
  intro n
  induction n with
  | zero =>
    intro x1 x4 m H locs ls h hP hS hl
    exact absurd h (by rewrite [fX12_sheet_69]; exact fun q => by cases q)
  | succ n ih =>
    intro x1 x4 m H locs ls h hP hS hl
    rewrite [fX12_sheet_69] at h
    refine lv_iload hx hb dX12_sheet_69 (lv_at hl 2 rfl) ?_
    refine lv_bipush (v := 40) hx hb dX12_sheet_71 (by decide) ?_
    refine lv_icmp_ge (tgt := 95) hx hb dX12_sheet_73 (by decide) (fun c_17 => ?_) (fun c_17 => ?_)
    · have h := ifp c_17 h
      refine lv_iconst (v := 1) hx hb dX12_sheet_95 (by decide) ?_
      exact r_iret X hP hS dX12_sheet_96 h
    · have h := ifn c_17 h
      refine lv_aload_n hx hb dX12_sheet_76 rfl (lv_at hl 0 rfl) ?_
      refine r_get kc_12 29 X hP (by decide) (L_ref _) (by decide) rfl wt_5_201 dX12_sheet_77 ?_
      refine lv_bipush (v := 40) hx hb dX12_sheet_80 (by decide) ?_
      refine lv_iload_n hx hb dX12_sheet_82 rfl (lv_at hl 1 rfl) ?_
      refine lv_imul hx hb dX12_sheet_83 ?_
      refine lv_iload hx hb dX12_sheet_84 (lv_at hl 2 rfl) ?_
      refine lv_iadd hx hb dX12_sheet_86 ?_
      refine lv_iconst (v := 0) hx hb dX12_sheet_87 (by decide) ?_
      obtain ⟨hin_18, h⟩ := gx_some h
      obtain ⟨m_19, em_20, h⟩ := lt_some h
      refine r_iast X hP hS (by decide) Lr_11 hin_18 rfl dX12_sheet_88 em_20 (fun H locs hP hS => ?_)
      obtain ⟨x4_21, ex_22, h⟩ := lt_some h
      refine lv_iinc (v := x4_21) (lv' := [(4, .int x4_21), (0, .ref (A 0)), (1, .int x1)]) hx hb dX12_sheet_89 hl (k := 2) rfl (by rw [ex_22]; rfl) (by decide) rfl (fun ls hl => ?_)
      refine lv_goto (tgt := 69) hx hb dX12_sheet_92 (by decide) ?_
      exact ih x1 x4_21 m_19 _ _ _  h hP hS (lv_sub hl [1, 2, 0] rfl)

def fX12_sheet_44  (x1 : Int32) (x2 : Int32) (x3 : Int32) (m : Mm) : Option (Int32 × Mm) := gx x1 4 (lt (up m 9 (ix x1) x2) fun m_12 => (if (0 : Int32) ≤ x2 then lt (up m_12 10 (ix x1) x3) fun m_15 => (fX12_sheet_69  FL x1 0 m_15) else lt (up m_12 10 (ix x1) 0) fun m_23 => (fX12_sheet_69  FL x1 0 m_23)))
set_option maxHeartbeats 4000000 in
set_option maxRecDepth 100000 in
theorem tX12_sheet_44 (hI : InjA rN A)  {r : Int32} {m' : Mm} (X : CX rLay rN D cA A p s m0 args meth c "BenchTowelsModel" cX12_sheet 5 (some .int)) : ∀ (x1 : Int32) (x2 : Int32) (x3 : Int32) (m : Mm) (H : Heap) (locs : List Loc) (ls : Array Slot), fX12_sheet_44 x1 x2 x3 m = some (r, m') → va_P D vwCl (wsOf rLay rN cA A m) H → va_S (AW rN A) s.heap H locs → lv_has ls 5 [(0, .ref (A 0)), (1, .int x1), (2, .int x2), (3, .int x3)] → W p l e { frames := 2, cells := 0, slots := 0, locals := 45 } s m0 args below meth c H locs 0 0 (ZR below args s rLay rN D cA A (some (.int r)) m') (F0 m0 44 ls []) := by
  have hx := X.1
  have hb := X.2.1
  have hml := X.2.2.1
  have hown := X.2.2.2.1
  have hts := X.2.2.2.2.1
  have hF := X.2.2.2.2.2.2.2.2.1
  intro x1 x2 x3 m H locs ls h hP hS hl
  rewrite [fX12_sheet_44] at h
  refine lv_aload_n hx hb dX12_sheet_44 rfl (lv_at hl 0 rfl) ?_
  refine r_get kc_12 27 X hP (by decide) (L_ref _) (by decide) rfl wt_5_199 dX12_sheet_45 ?_
  refine lv_iload_n hx hb dX12_sheet_48 rfl (lv_at hl 1 rfl) ?_
  refine lv_iload_n hx hb dX12_sheet_49 rfl (lv_at hl 2 rfl) ?_
  obtain ⟨hin_11, h⟩ := gx_some h
  obtain ⟨m_12, em_13, h⟩ := lt_some h
  refine r_iast X hP hS (by decide) Lr_9 hin_11 rfl dX12_sheet_50 em_13 (fun H locs hP hS => ?_)
  refine lv_aload_n hx hb dX12_sheet_51 rfl (lv_at hl 0 rfl) ?_
  refine r_get kc_12 28 X hP (by decide) (L_ref _) (by decide) rfl wt_5_200 dX12_sheet_52 ?_
  refine lv_iload_n hx hb dX12_sheet_55 rfl (lv_at hl 1 rfl) ?_
  refine lv_iload_n hx hb dX12_sheet_56 rfl (lv_at hl 2 rfl) ?_
  refine lv_if_ge (tgt := 64) hx hb dX12_sheet_57 (by decide) (fun c_14 => ?_) (fun c_14 => ?_)
  · have h := ifp c_14 h
    refine lv_iload_n hx hb dX12_sheet_64 rfl (lv_at hl 3 rfl) ?_
    obtain ⟨m_15, em_16, h⟩ := lt_some h
    refine r_iast X hP hS (by decide) Lr_10 hin_11 rfl dX12_sheet_65 em_16 (fun H locs hP hS => ?_)
    refine lv_iconst (v := 0) hx hb dX12_sheet_66 (by decide) ?_
    refine lv_istore (lv' := [(4, .int 0), (0, .ref (A 0)), (1, .int x1), (2, .int x2), (3, .int x3)]) hx hb dX12_sheet_67 hl (by decide) rfl (fun ls hl => ?_)
    exact tX12_sheet_69 hI    X FL x1 0 m_15 _ _ _  h hP hS (lv_sub hl [1, 2, 0] rfl)
  · have h := ifn c_14 h
    refine lv_iconst (v := 0) hx hb dX12_sheet_60 (by decide) ?_
    refine lv_goto (tgt := 65) hx hb dX12_sheet_61 (by decide) ?_
    obtain ⟨m_23, em_24, h⟩ := lt_some h
    refine r_iast X hP hS (by decide) Lr_10 hin_11 rfl dX12_sheet_65 em_24 (fun H locs hP hS => ?_)
    refine lv_iconst (v := 0) hx hb dX12_sheet_66 (by decide) ?_
    refine lv_istore (lv' := [(4, .int 0), (0, .ref (A 0)), (1, .int x1), (2, .int x2), (3, .int x3)]) hx hb dX12_sheet_67 hl (by decide) rfl (fun ls hl => ?_)
    exact tX12_sheet_69 hI    X FL x1 0 m_23 _ _ _  h hP hS (lv_sub hl [1, 2, 0] rfl)

def fX12_sheet_33  (x1 : Int32) (x2 : Int32) (x3 : Int32) (m : Mm) : Option (Int32 × Mm) := (if x2 < 0 then fX12_sheet_44  x1 x2 x3 m else (if (0 : Int32) ≤ x3 then fX12_sheet_44  x1 x2 x3 m else some ((-14), m)))
set_option maxHeartbeats 4000000 in
set_option maxRecDepth 100000 in
theorem tX12_sheet_33 (hI : InjA rN A)  {r : Int32} {m' : Mm} (X : CX rLay rN D cA A p s m0 args meth c "BenchTowelsModel" cX12_sheet 5 (some .int)) : ∀ (x1 : Int32) (x2 : Int32) (x3 : Int32) (m : Mm) (H : Heap) (locs : List Loc) (ls : Array Slot), fX12_sheet_33 x1 x2 x3 m = some (r, m') → va_P D vwCl (wsOf rLay rN cA A m) H → va_S (AW rN A) s.heap H locs → lv_has ls 5 [(0, .ref (A 0)), (1, .int x1), (2, .int x2), (3, .int x3)] → W p l e { frames := 2, cells := 0, slots := 0, locals := 45 } s m0 args below meth c H locs 0 0 (ZR below args s rLay rN D cA A (some (.int r)) m') (F0 m0 33 ls []) := by
  have hx := X.1
  have hb := X.2.1
  have hml := X.2.2.1
  have hown := X.2.2.2.1
  have hts := X.2.2.2.2.1
  have hF := X.2.2.2.2.2.2.2.2.1
  intro x1 x2 x3 m H locs ls h hP hS hl
  rewrite [fX12_sheet_33] at h
  refine lv_iload_n hx hb dX12_sheet_33 rfl (lv_at hl 2 rfl) ?_
  refine lv_if_lt (tgt := 44) hx hb dX12_sheet_34 (by decide) (fun c_10 => ?_) (fun c_10 => ?_)
  · have h := ifp c_10 h
    exact tX12_sheet_44 hI    X x1 x2 x3 m _ _ _  h hP hS (lv_sub hl [0, 1, 2, 3] rfl)
  · have h := ifn c_10 h
    refine lv_iload_n hx hb dX12_sheet_37 rfl (lv_at hl 3 rfl) ?_
    refine lv_if_ge (tgt := 44) hx hb dX12_sheet_38 (by decide) (fun c_25 => ?_) (fun c_25 => ?_)
    · have h := ifp c_25 h
      exact tX12_sheet_44 hI    X x1 x2 x3 m _ _ _  h hP hS (lv_sub hl [0, 1, 2, 3] rfl)
    · have h := ifn c_25 h
      refine lv_bipush (v := (-14)) hx hb dX12_sheet_41 (by decide) ?_
      exact r_iret X hP hS dX12_sheet_43 h

def fX12_sheet (a1 : Int32) (a2 : Int32) (a3 : Int32) (m : Mm) : Option (Int32 × Mm) := bd (fX12_isSheet a1 m) fun r_1 m_2 => (if r_1 = 0 then some ((-1), m_2) else bd (fX12_isIn (Int32.toInt64 a2) ((-1) : Int64) (4 : Int64) m_2) fun r_5 m_6 => (if r_5 = 0 then some ((-1), m_6) else (if a2 < 0 then fX12_sheet_33  a1 a2 a3 m_6 else (if a3 ≤ 40 then fX12_sheet_33  a1 a2 a3 m_6 else some ((-1), m_6)))))
set_option maxHeartbeats 4000000 in
set_option maxRecDepth 100000 in
theorem tX12_sheet {l : Launch} {D : va_G} {cA : Nat → ClassId} {A : Nat → Nat} (hI : InjA rN A) {a1 : Int32} {a2 : Int32} {a3 : Int32} {m m' : Mm} {r : Int32} (h : fX12_sheet a1 a2 a3 m = some (r, m')) : Met0 l yX12_sheet cX12_sheet 5 (some .int) { frames := 2, cells := 0, slots := 0, locals := 45 } rLay rN D cA A [.ref (A 0), .int a1, .int a2, .int a3] m (some (.int r)) m' := by
  refine met0_of (by decide) (Nat.le_of_ble_eq_true rfl) hI ?_
  intro p e s m0 below meth c ls X hinit hP hS hl
  generalize ([.ref (A 0), .int a1, .int a2, .int a3] : List Value).toArray = args at X ⊢
  have hl : lv_has ls 5 [(0, .ref (A 0)), (1, .int a1), (2, .int a2), (3, .int a3)] := hl
  have X : CX rLay rN D cA A p s m0 args meth c "BenchTowelsModel" cX12_sheet 5 (some .int) := X
  have hx := X.1
  have hb := X.2.1
  have hml := X.2.2.1
  have hown := X.2.2.2.1
  have hts := X.2.2.2.2.1
  have hF := X.2.2.2.2.2.2.2.2.1
  rewrite [fX12_sheet] at h
  refine lv_iload_n hx hb dX12_sheet_0 rfl (lv_at hl 1 rfl) ?_
  obtain ⟨r_1, m_2, hc_3, h⟩ := bd_some h
  refine c_S (rest := []) X hP hS (tX12_isSheet hI  hc_3) wt_7_200 wt_7_201 wt_1_13 wt_7_202 hy_X12_isSheet ⟨rfl, rfl⟩ ⟨Nat.le_of_ble_eq_true rfl, Nat.le_of_ble_eq_true rfl⟩ rfl hl.1 rfl (Nat.le_of_ble_eq_true rfl) dX12_sheet_1 rfl (fun H locs hP hS => ?_)
  refine lv_if_eq (tgt := 31) hx hb dX12_sheet_4 (by decide) (fun c_4 => ?_) (fun c_4 => ?_)
  · have h := ifp c_4 h
    refine lv_iconst (v := (-1)) hx hb dX12_sheet_31 (by decide) ?_
    exact r_iret X hP hS dX12_sheet_32 h
  · have h := ifn c_4 h
    refine lv_iload_n hx hb dX12_sheet_7 rfl (lv_at hl 2 rfl) ?_
    refine lv_i2l hx hb dX12_sheet_8 rfl ?_
    refine lv_ldc2 (v := (-1)) hx hb hown (hts _ wt_7_203) dX12_sheet_9 ?_
    refine lv_ldc2 (v := 4) hx hb hown (hts _ wt_6_112) dX12_sheet_12 ?_
    obtain ⟨r_5, m_6, hc_7, h⟩ := bd_some h
    refine c_S (rest := []) X hP hS (tX12_isIn hI  hc_7) wt_6_55 wt_6_56 wt_1_13 wt_6_57 hy_X12_isIn ⟨rfl, rfl⟩ ⟨Nat.le_of_ble_eq_true rfl, Nat.le_of_ble_eq_true rfl⟩ rfl hl.1 rfl (Nat.le_of_ble_eq_true rfl) dX12_sheet_15 rfl (fun H locs hP hS => ?_)
    refine lv_if_eq (tgt := 31) hx hb dX12_sheet_18 (by decide) (fun c_8 => ?_) (fun c_8 => ?_)
    · have h := ifp c_8 h
      refine lv_iconst (v := (-1)) hx hb dX12_sheet_31 (by decide) ?_
      exact r_iret X hP hS dX12_sheet_32 h
    · have h := ifn c_8 h
      refine lv_iload_n hx hb dX12_sheet_21 rfl (lv_at hl 2 rfl) ?_
      refine lv_if_lt (tgt := 33) hx hb dX12_sheet_22 (by decide) (fun c_9 => ?_) (fun c_9 => ?_)
      · have h := ifp c_9 h
        exact tX12_sheet_33 hI    X a1 a2 a3 m_6 _ _ _  h hP hS (lv_sub hl [0, 1, 2, 3] rfl)
      · have h := ifn c_9 h
        refine lv_iload_n hx hb dX12_sheet_25 rfl (lv_at hl 3 rfl) ?_
        refine lv_bipush (v := 40) hx hb dX12_sheet_26 (by decide) ?_
        refine lv_icmp_le (tgt := 33) hx hb dX12_sheet_28 (by decide) (fun c_26 => ?_) (fun c_26 => ?_)
        · have h := ifp c_26 h
          exact tX12_sheet_33 hI    X a1 a2 a3 m_6 _ _ _  h hP hS (lv_sub hl [0, 1, 2, 3] rfl)
        · have h := ifn c_26 h
          refine lv_iconst (v := (-1)) hx hb dX12_sheet_31 (by decide) ?_
          exact r_iret X hP hS dX12_sheet_32 h

def fX12_write (a1 : Int32) (a2 : Int32) (a3 : Int32) (m : Mm) : Option (Int32 × Mm) := bd (fX12_isSheet a1 m) fun r_1 m_2 => (if r_1 = 0 then some ((-1), m_2) else gx a1 4 ((if (0 : Int32) ≤ (m_2 9 (ix a1)) then bd (fX12_isIn (Int32.toInt64 a2) (0 : Int64) (Int32.toInt64 ((m_2 10 (ix a1)) - 1)) m_2) fun r_7 m_8 => (if r_7 = 0 then some ((-12), m_8) else (if (m_8 9 (ix a1)) = 0 then gx (((40 : Int32) * a1) + a2) 160 (lt (up m_8 11 (ix (((40 : Int32) * a1) + a2)) (Int8.toInt32 (Int32.toInt8 a3))) fun m_28 => some (1, m_28)) else (if (m_8 9 (ix a1)) = 1 then gx (((40 : Int32) * a1) + a2) 160 (lt (up m_8 11 (ix (((40 : Int32) * a1) + a2)) (Int16.toInt32 (Int32.toInt16 a3))) fun m_25 => some (1, m_25)) else (if (m_8 9 (ix a1)) = 4 then (if a3 = 0 then gx (((40 : Int32) * a1) + a2) 160 (lt (up m_8 11 (ix (((40 : Int32) * a1) + a2)) 0) fun m_22 => some (1, m_22)) else gx (((40 : Int32) * a1) + a2) 160 (lt (up m_8 11 (ix (((40 : Int32) * a1) + a2)) 1) fun m_19 => some (1, m_19))) else gx (((40 : Int32) * a1) + a2) 160 (lt (up m_8 11 (ix (((40 : Int32) * a1) + a2)) a3) fun m_15 => some (1, m_15)))))) else some ((-11), m_2))))
set_option maxHeartbeats 4000000 in
set_option maxRecDepth 100000 in
theorem tX12_write {l : Launch} {D : va_G} {cA : Nat → ClassId} {A : Nat → Nat} (hI : InjA rN A) {a1 : Int32} {a2 : Int32} {a3 : Int32} {m m' : Mm} {r : Int32} (h : fX12_write a1 a2 a3 m = some (r, m')) : Met0 l yX12_write cX12_write 4 (some .int) { frames := 2, cells := 0, slots := 0, locals := 45 } rLay rN D cA A [.ref (A 0), .int a1, .int a2, .int a3] m (some (.int r)) m' := by
  refine met0_of (by decide) (Nat.le_of_ble_eq_true rfl) hI ?_
  intro p e s m0 below meth c ls X hinit hP hS hl
  generalize ([.ref (A 0), .int a1, .int a2, .int a3] : List Value).toArray = args at X ⊢
  have hl : lv_has ls 4 [(0, .ref (A 0)), (1, .int a1), (2, .int a2), (3, .int a3)] := hl
  have X : CX rLay rN D cA A p s m0 args meth c "BenchTowelsModel" cX12_write 4 (some .int) := X
  have hx := X.1
  have hb := X.2.1
  have hml := X.2.2.1
  have hown := X.2.2.2.1
  have hts := X.2.2.2.2.1
  have hF := X.2.2.2.2.2.2.2.2.1
  rewrite [fX12_write] at h
  refine lv_iload_n hx hb dX12_write_0 rfl (lv_at hl 1 rfl) ?_
  obtain ⟨r_1, m_2, hc_3, h⟩ := bd_some h
  refine c_S (rest := []) X hP hS (tX12_isSheet hI  hc_3) wt_7_200 wt_7_201 wt_1_13 wt_7_202 hy_X12_isSheet ⟨rfl, rfl⟩ ⟨Nat.le_of_ble_eq_true rfl, Nat.le_of_ble_eq_true rfl⟩ rfl hl.1 rfl (Nat.le_of_ble_eq_true rfl) dX12_write_1 rfl (fun H locs hP hS => ?_)
  refine lv_if_ne (tgt := 9) hx hb dX12_write_4 (by decide) (fun c_4 => ?_) (fun c_4 => ?_)
  · have h := ifn c_4 h
    refine lv_aload_n hx hb dX12_write_9 rfl (lv_at hl 0 rfl) ?_
    refine r_get kc_12 27 X hP (by decide) (L_ref _) (by decide) rfl wt_5_199 dX12_write_10 ?_
    refine lv_iload_n hx hb dX12_write_13 rfl (lv_at hl 1 rfl) ?_
    obtain ⟨hin_5, h⟩ := gx_some h
    refine r_iald X hP (by decide) (Lr_9 _) hin_5 rfl dX12_write_14 ?_
    refine lv_if_ge (tgt := 21) hx hb dX12_write_15 (by decide) (fun c_6 => ?_) (fun c_6 => ?_)
    · have h := ifp c_6 h
      refine lv_iload_n hx hb dX12_write_21 rfl (lv_at hl 2 rfl) ?_
      refine lv_i2l hx hb dX12_write_22 rfl ?_
      refine lv_lconst (v := 0) hx hb dX12_write_23 (by decide) ?_
      refine lv_aload_n hx hb dX12_write_24 rfl (lv_at hl 0 rfl) ?_
      refine r_get kc_12 28 X hP (by decide) (L_ref _) (by decide) rfl wt_5_200 dX12_write_25 ?_
      refine lv_iload_n hx hb dX12_write_28 rfl (lv_at hl 1 rfl) ?_
      refine r_iald X hP (by decide) (Lr_10 _) hin_5 rfl dX12_write_29 ?_
      refine lv_iconst (v := 1) hx hb dX12_write_30 (by decide) ?_
      refine lv_isub hx hb dX12_write_31 ?_
      refine lv_i2l hx hb dX12_write_32 rfl ?_
      obtain ⟨r_7, m_8, hc_9, h⟩ := bd_some h
      refine c_S (rest := []) X hP hS (tX12_isIn hI  hc_9) wt_6_55 wt_6_56 wt_1_13 wt_6_57 hy_X12_isIn ⟨rfl, rfl⟩ ⟨Nat.le_of_ble_eq_true rfl, Nat.le_of_ble_eq_true rfl⟩ rfl hl.1 rfl (Nat.le_of_ble_eq_true rfl) dX12_write_33 rfl (fun H locs hP hS => ?_)
      refine lv_if_ne (tgt := 42) hx hb dX12_write_36 (by decide) (fun c_10 => ?_) (fun c_10 => ?_)
      · have h := ifn c_10 h
        refine lv_aload_n hx hb dX12_write_42 rfl (lv_at hl 0 rfl) ?_
        refine r_get kc_12 29 X hP (by decide) (L_ref _) (by decide) rfl wt_5_201 dX12_write_43 ?_
        refine lv_bipush (v := 40) hx hb dX12_write_46 (by decide) ?_
        refine lv_iload_n hx hb dX12_write_48 rfl (lv_at hl 1 rfl) ?_
        refine lv_imul hx hb dX12_write_49 ?_
        refine lv_iload_n hx hb dX12_write_50 rfl (lv_at hl 2 rfl) ?_
        refine lv_iadd hx hb dX12_write_51 ?_
        refine lv_aload_n hx hb dX12_write_52 rfl (lv_at hl 0 rfl) ?_
        refine r_get kc_12 27 X hP (by decide) (L_ref _) (by decide) rfl wt_5_199 dX12_write_53 ?_
        refine lv_iload_n hx hb dX12_write_56 rfl (lv_at hl 1 rfl) ?_
        refine r_iald X hP (by decide) (Lr_9 _) hin_5 rfl dX12_write_57 ?_
        refine lv_if_ne (tgt := 66) hx hb dX12_write_58 (by decide) (fun c_11 => ?_) (fun c_11 => ?_)
        · have h := ifn c_11 h
          refine lv_aload_n hx hb dX12_write_66 rfl (lv_at hl 0 rfl) ?_
          refine r_get kc_12 27 X hP (by decide) (L_ref _) (by decide) rfl wt_5_199 dX12_write_67 ?_
          refine lv_iload_n hx hb dX12_write_70 rfl (lv_at hl 1 rfl) ?_
          refine r_iald X hP (by decide) (Lr_9 _) hin_5 rfl dX12_write_71 ?_
          refine lv_iconst (v := 1) hx hb dX12_write_72 (by decide) ?_
          refine lv_icmp_ne (tgt := 81) hx hb dX12_write_73 (by decide) (fun c_12 => ?_) (fun c_12 => ?_)
          · have h := ifn c_12 h
            refine lv_aload_n hx hb dX12_write_81 rfl (lv_at hl 0 rfl) ?_
            refine r_get kc_12 27 X hP (by decide) (L_ref _) (by decide) rfl wt_5_199 dX12_write_82 ?_
            refine lv_iload_n hx hb dX12_write_85 rfl (lv_at hl 1 rfl) ?_
            refine r_iald X hP (by decide) (Lr_9 _) hin_5 rfl dX12_write_86 ?_
            refine lv_iconst (v := 4) hx hb dX12_write_87 (by decide) ?_
            refine lv_icmp_ne (tgt := 103) hx hb dX12_write_88 (by decide) (fun c_13 => ?_) (fun c_13 => ?_)
            · have h := ifn c_13 h
              refine lv_iload_n hx hb dX12_write_103 rfl (lv_at hl 3 rfl) ?_
              obtain ⟨hin_14, h⟩ := gx_some h
              obtain ⟨m_15, em_16, h⟩ := lt_some h
              refine r_iast X hP hS (by decide) Lr_11 hin_14 rfl dX12_write_104 em_16 (fun H locs hP hS => ?_)
              refine lv_iconst (v := 1) hx hb dX12_write_105 (by decide) ?_
              exact r_iret X hP hS dX12_write_106 h
            · have h := ifp c_13 h
              refine lv_iload_n hx hb dX12_write_91 rfl (lv_at hl 3 rfl) ?_
              refine lv_if_ne (tgt := 99) hx hb dX12_write_92 (by decide) (fun c_17 => ?_) (fun c_17 => ?_)
              · have h := ifn c_17 h
                refine lv_iconst (v := 1) hx hb dX12_write_99 (by decide) ?_
                refine lv_goto (tgt := 104) hx hb dX12_write_100 (by decide) ?_
                obtain ⟨hin_18, h⟩ := gx_some h
                obtain ⟨m_19, em_20, h⟩ := lt_some h
                refine r_iast X hP hS (by decide) Lr_11 hin_18 rfl dX12_write_104 em_20 (fun H locs hP hS => ?_)
                refine lv_iconst (v := 1) hx hb dX12_write_105 (by decide) ?_
                exact r_iret X hP hS dX12_write_106 h
              · have h := ifp c_17 h
                refine lv_iconst (v := 0) hx hb dX12_write_95 (by decide) ?_
                refine lv_goto (tgt := 104) hx hb dX12_write_96 (by decide) ?_
                obtain ⟨hin_21, h⟩ := gx_some h
                obtain ⟨m_22, em_23, h⟩ := lt_some h
                refine r_iast X hP hS (by decide) Lr_11 hin_21 rfl dX12_write_104 em_23 (fun H locs hP hS => ?_)
                refine lv_iconst (v := 1) hx hb dX12_write_105 (by decide) ?_
                exact r_iret X hP hS dX12_write_106 h
          · have h := ifp c_12 h
            refine lv_iload_n hx hb dX12_write_76 rfl (lv_at hl 3 rfl) ?_
            refine lv_i2s hx hb dX12_write_77 rfl ?_
            refine lv_goto (tgt := 104) hx hb dX12_write_78 (by decide) ?_
            obtain ⟨hin_24, h⟩ := gx_some h
            obtain ⟨m_25, em_26, h⟩ := lt_some h
            refine r_iast X hP hS (by decide) Lr_11 hin_24 rfl dX12_write_104 em_26 (fun H locs hP hS => ?_)
            refine lv_iconst (v := 1) hx hb dX12_write_105 (by decide) ?_
            exact r_iret X hP hS dX12_write_106 h
        · have h := ifp c_11 h
          refine lv_iload_n hx hb dX12_write_61 rfl (lv_at hl 3 rfl) ?_
          refine lv_i2b hx hb dX12_write_62 rfl ?_
          refine lv_goto (tgt := 104) hx hb dX12_write_63 (by decide) ?_
          obtain ⟨hin_27, h⟩ := gx_some h
          obtain ⟨m_28, em_29, h⟩ := lt_some h
          refine r_iast X hP hS (by decide) Lr_11 hin_27 rfl dX12_write_104 em_29 (fun H locs hP hS => ?_)
          refine lv_iconst (v := 1) hx hb dX12_write_105 (by decide) ?_
          exact r_iret X hP hS dX12_write_106 h
      · have h := ifp c_10 h
        refine lv_bipush (v := (-12)) hx hb dX12_write_39 (by decide) ?_
        exact r_iret X hP hS dX12_write_41 h
    · have h := ifn c_6 h
      refine lv_bipush (v := (-11)) hx hb dX12_write_18 (by decide) ?_
      exact r_iret X hP hS dX12_write_20 h
  · have h := ifp c_4 h
    refine lv_iconst (v := (-1)) hx hb dX12_write_7 (by decide) ?_
    exact r_iret X hP hS dX12_write_8 h

def fX12_lacks (a1 : Int32) (a2 : Int32) (m : Mm) : Option (Int32 × Mm) := gx a1 4 ((if (0 : Int32) ≤ (m 9 (ix a1)) then (if (m 9 (ix a1)) = a2 then some (0, m) else some ((-13), m)) else some ((-11), m)))
set_option maxHeartbeats 4000000 in
set_option maxRecDepth 100000 in
theorem tX12_lacks {l : Launch} {D : va_G} {cA : Nat → ClassId} {A : Nat → Nat} (hI : InjA rN A) {a1 : Int32} {a2 : Int32} {m m' : Mm} {r : Int32} (h : fX12_lacks a1 a2 m = some (r, m')) : Met0 l yX12_lacks cX12_lacks 3 (some .int) { frames := 0, cells := 0, slots := 0, locals := 0 } rLay rN D cA A [.ref (A 0), .int a1, .int a2] m (some (.int r)) m' := by
  refine met0_of (by decide) (Nat.le_of_ble_eq_true rfl) hI ?_
  intro p e s m0 below meth c ls X hinit hP hS hl
  generalize ([.ref (A 0), .int a1, .int a2] : List Value).toArray = args at X ⊢
  have hl : lv_has ls 3 [(0, .ref (A 0)), (1, .int a1), (2, .int a2)] := hl
  have X : CX rLay rN D cA A p s m0 args meth c "BenchTowelsModel" cX12_lacks 3 (some .int) := X
  have hx := X.1
  have hb := X.2.1
  have hml := X.2.2.1
  have hown := X.2.2.2.1
  have hts := X.2.2.2.2.1
  have hF := X.2.2.2.2.2.2.2.2.1
  rewrite [fX12_lacks] at h
  refine lv_aload_n hx hb dX12_lacks_0 rfl (lv_at hl 0 rfl) ?_
  refine r_get kc_12 27 X hP (by decide) (L_ref _) (by decide) rfl wt_5_199 dX12_lacks_1 ?_
  refine lv_iload_n hx hb dX12_lacks_4 rfl (lv_at hl 1 rfl) ?_
  obtain ⟨hin_1, h⟩ := gx_some h
  refine r_iald X hP (by decide) (Lr_9 _) hin_1 rfl dX12_lacks_5 ?_
  refine lv_if_ge (tgt := 14) hx hb dX12_lacks_6 (by decide) (fun c_2 => ?_) (fun c_2 => ?_)
  · have h := ifp c_2 h
    refine lv_aload_n hx hb dX12_lacks_14 rfl (lv_at hl 0 rfl) ?_
    refine r_get kc_12 27 X hP (by decide) (L_ref _) (by decide) rfl wt_5_199 dX12_lacks_15 ?_
    refine lv_iload_n hx hb dX12_lacks_18 rfl (lv_at hl 1 rfl) ?_
    refine r_iald X hP (by decide) (Lr_9 _) hin_1 rfl dX12_lacks_19 ?_
    refine lv_iload_n hx hb dX12_lacks_20 rfl (lv_at hl 2 rfl) ?_
    refine lv_icmp_eq (tgt := 29) hx hb dX12_lacks_21 (by decide) (fun c_3 => ?_) (fun c_3 => ?_)
    · have h := ifp c_3 h
      refine lv_iconst (v := 0) hx hb dX12_lacks_29 (by decide) ?_
      exact r_iret X hP hS dX12_lacks_30 h
    · have h := ifn c_3 h
      refine lv_bipush (v := (-13)) hx hb dX12_lacks_24 (by decide) ?_
      refine lv_goto (tgt := 30) hx hb dX12_lacks_26 (by decide) ?_
      exact r_iret X hP hS dX12_lacks_30 h
  · have h := ifn c_2 h
    refine lv_bipush (v := (-11)) hx hb dX12_lacks_9 (by decide) ?_
    refine lv_goto (tgt := 30) hx hb dX12_lacks_11 (by decide) ?_
    exact r_iret X hP hS dX12_lacks_30 h

def fX12_item (a1 : Int32) (a2 : Int32) (a3 : Int32) (m : Mm) : Option (Int32 × Mm) := bd (fX12_isSheet a1 m) fun r_1 m_2 => (if r_1 = 0 then some ((-1), m_2) else bd (fX12_isIn (Int32.toInt64 a2) (0 : Int64) (4 : Int64) m_2) fun r_5 m_6 => (if r_5 = 0 then some ((-1), m_6) else bd (fX12_lacks a1 a2 m_6) fun r_9 m_10 => (if r_9 = 0 then gx a1 4 (bd (fX12_isIn (Int32.toInt64 a3) (0 : Int64) (Int32.toInt64 ((m_10 10 (ix a1)) - 1)) m_10) fun r_14 m_15 => (if r_14 = 0 then some ((-12), m_15) else gx (((40 : Int32) * a1) + a3) 160 (some ((m_15 11 (ix (((40 : Int32) * a1) + a3))), m_15)))) else bd (fX12_lacks a1 a2 m_10) fun r_19 m_20 => some (r_19, m_20))))
set_option maxHeartbeats 4000000 in
set_option maxRecDepth 100000 in
theorem tX12_item {l : Launch} {D : va_G} {cA : Nat → ClassId} {A : Nat → Nat} (hI : InjA rN A) {a1 : Int32} {a2 : Int32} {a3 : Int32} {m m' : Mm} {r : Int32} (h : fX12_item a1 a2 a3 m = some (r, m')) : Met0 l yX12_item cX12_item 4 (some .int) { frames := 2, cells := 0, slots := 0, locals := 45 } rLay rN D cA A [.ref (A 0), .int a1, .int a2, .int a3] m (some (.int r)) m' := by
  refine met0_of (by decide) (Nat.le_of_ble_eq_true rfl) hI ?_
  intro p e s m0 below meth c ls X hinit hP hS hl
  generalize ([.ref (A 0), .int a1, .int a2, .int a3] : List Value).toArray = args at X ⊢
  have hl : lv_has ls 4 [(0, .ref (A 0)), (1, .int a1), (2, .int a2), (3, .int a3)] := hl
  have X : CX rLay rN D cA A p s m0 args meth c "BenchTowelsModel" cX12_item 4 (some .int) := X
  have hx := X.1
  have hb := X.2.1
  have hml := X.2.2.1
  have hown := X.2.2.2.1
  have hts := X.2.2.2.2.1
  have hF := X.2.2.2.2.2.2.2.2.1
  rewrite [fX12_item] at h
  refine lv_iload_n hx hb dX12_item_0 rfl (lv_at hl 1 rfl) ?_
  obtain ⟨r_1, m_2, hc_3, h⟩ := bd_some h
  refine c_S (rest := []) X hP hS (tX12_isSheet hI  hc_3) wt_7_200 wt_7_201 wt_1_13 wt_7_202 hy_X12_isSheet ⟨rfl, rfl⟩ ⟨Nat.le_of_ble_eq_true rfl, Nat.le_of_ble_eq_true rfl⟩ rfl hl.1 rfl (Nat.le_of_ble_eq_true rfl) dX12_item_1 rfl (fun H locs hP hS => ?_)
  refine lv_if_eq (tgt := 19) hx hb dX12_item_4 (by decide) (fun c_4 => ?_) (fun c_4 => ?_)
  · have h := ifp c_4 h
    refine lv_iconst (v := (-1)) hx hb dX12_item_19 (by decide) ?_
    exact r_iret X hP hS dX12_item_20 h
  · have h := ifn c_4 h
    refine lv_iload_n hx hb dX12_item_7 rfl (lv_at hl 2 rfl) ?_
    refine lv_i2l hx hb dX12_item_8 rfl ?_
    refine lv_lconst (v := 0) hx hb dX12_item_9 (by decide) ?_
    refine lv_ldc2 (v := 4) hx hb hown (hts _ wt_6_112) dX12_item_10 ?_
    obtain ⟨r_5, m_6, hc_7, h⟩ := bd_some h
    refine c_S (rest := []) X hP hS (tX12_isIn hI  hc_7) wt_6_55 wt_6_56 wt_1_13 wt_6_57 hy_X12_isIn ⟨rfl, rfl⟩ ⟨Nat.le_of_ble_eq_true rfl, Nat.le_of_ble_eq_true rfl⟩ rfl hl.1 rfl (Nat.le_of_ble_eq_true rfl) dX12_item_13 rfl (fun H locs hP hS => ?_)
    refine lv_if_ne (tgt := 21) hx hb dX12_item_16 (by decide) (fun c_8 => ?_) (fun c_8 => ?_)
    · have h := ifn c_8 h
      refine lv_aload_n hx hb dX12_item_21 rfl (lv_at hl 0 rfl) ?_
      refine lv_iload_n hx hb dX12_item_22 rfl (lv_at hl 1 rfl) ?_
      refine lv_iload_n hx hb dX12_item_23 rfl (lv_at hl 2 rfl) ?_
      obtain ⟨r_9, m_10, hc_11, h⟩ := bd_some h
      refine c_V (rest := []) X hP hS (tX12_lacks hI  hc_11) (by decide) (L_ref _) rfl wt_7_212 wt_7_214 ws_5_8 wt_1_13 wt_7_215 ⟨rfl, hy_X12_lacks⟩ ⟨rfl, rfl⟩ ⟨Nat.le_of_ble_eq_true rfl, Nat.le_of_ble_eq_true rfl⟩ rfl hl.1 rfl (Nat.le_of_ble_eq_true rfl) dX12_item_24 rfl (fun H locs hP hS => ?_)
      refine lv_if_eq (tgt := 37) hx hb dX12_item_27 (by decide) (fun c_12 => ?_) (fun c_12 => ?_)
      · have h := ifp c_12 h
        refine lv_iload_n hx hb dX12_item_37 rfl (lv_at hl 3 rfl) ?_
        refine lv_i2l hx hb dX12_item_38 rfl ?_
        refine lv_lconst (v := 0) hx hb dX12_item_39 (by decide) ?_
        refine lv_aload_n hx hb dX12_item_40 rfl (lv_at hl 0 rfl) ?_
        refine r_get kc_12 28 X hP (by decide) (L_ref _) (by decide) rfl wt_5_200 dX12_item_41 ?_
        refine lv_iload_n hx hb dX12_item_44 rfl (lv_at hl 1 rfl) ?_
        obtain ⟨hin_13, h⟩ := gx_some h
        refine r_iald X hP (by decide) (Lr_10 _) hin_13 rfl dX12_item_45 ?_
        refine lv_iconst (v := 1) hx hb dX12_item_46 (by decide) ?_
        refine lv_isub hx hb dX12_item_47 ?_
        refine lv_i2l hx hb dX12_item_48 rfl ?_
        obtain ⟨r_14, m_15, hc_16, h⟩ := bd_some h
        refine c_S (rest := []) X hP hS (tX12_isIn hI  hc_16) wt_6_55 wt_6_56 wt_1_13 wt_6_57 hy_X12_isIn ⟨rfl, rfl⟩ ⟨Nat.le_of_ble_eq_true rfl, Nat.le_of_ble_eq_true rfl⟩ rfl hl.1 rfl (Nat.le_of_ble_eq_true rfl) dX12_item_49 rfl (fun H locs hP hS => ?_)
        refine lv_if_eq (tgt := 69) hx hb dX12_item_52 (by decide) (fun c_17 => ?_) (fun c_17 => ?_)
        · have h := ifp c_17 h
          refine lv_bipush (v := (-12)) hx hb dX12_item_69 (by decide) ?_
          exact r_iret X hP hS dX12_item_71 h
        · have h := ifn c_17 h
          refine lv_aload_n hx hb dX12_item_55 rfl (lv_at hl 0 rfl) ?_
          refine r_get kc_12 29 X hP (by decide) (L_ref _) (by decide) rfl wt_5_201 dX12_item_56 ?_
          refine lv_bipush (v := 40) hx hb dX12_item_59 (by decide) ?_
          refine lv_iload_n hx hb dX12_item_61 rfl (lv_at hl 1 rfl) ?_
          refine lv_imul hx hb dX12_item_62 ?_
          refine lv_iload_n hx hb dX12_item_63 rfl (lv_at hl 3 rfl) ?_
          refine lv_iadd hx hb dX12_item_64 ?_
          obtain ⟨hin_18, h⟩ := gx_some h
          refine r_iald X hP (by decide) (Lr_11 _) hin_18 rfl dX12_item_65 ?_
          refine lv_goto (tgt := 71) hx hb dX12_item_66 (by decide) ?_
          exact r_iret X hP hS dX12_item_71 h
      · have h := ifn c_12 h
        refine lv_aload_n hx hb dX12_item_30 rfl (lv_at hl 0 rfl) ?_
        refine lv_iload_n hx hb dX12_item_31 rfl (lv_at hl 1 rfl) ?_
        refine lv_iload_n hx hb dX12_item_32 rfl (lv_at hl 2 rfl) ?_
        obtain ⟨r_19, m_20, hc_21, h⟩ := bd_some h
        refine c_V (rest := []) X hP hS (tX12_lacks hI  hc_21) (by decide) (L_ref _) rfl wt_7_212 wt_7_214 ws_5_8 wt_1_13 wt_7_215 ⟨rfl, hy_X12_lacks⟩ ⟨rfl, rfl⟩ ⟨Nat.le_of_ble_eq_true rfl, Nat.le_of_ble_eq_true rfl⟩ rfl hl.1 rfl (Nat.le_of_ble_eq_true rfl) dX12_item_33 rfl (fun H locs hP hS => ?_)
        exact r_iret X hP hS dX12_item_36 h
    · have h := ifp c_8 h
      refine lv_iconst (v := (-1)) hx hb dX12_item_19 (by decide) ?_
      exact r_iret X hP hS dX12_item_20 h

def fX12_goAll_117 (K43 : Int32 → Int32 → Int32 → Int32 → Int32 → Mm → Option (Int32 × Mm)) (x1 : Int32) (x2 : Int32) (x3 : Int32) (x5 : Int32) (s0 : Int32) (m : Mm) : Option (Int32 × Mm) := lt (s0 + 0) fun x4_26 => lt ((x5 : Int32) + 1) fun x5_28 => (K43 x1 x2 x3 x4_26 x5_28 m)
set_option maxHeartbeats 4000000 in
set_option maxRecDepth 100000 in
theorem tX12_goAll_117 (hI : InjA rN A)  {r : Int32} {m' : Mm} {K43 : Int32 → Int32 → Int32 → Int32 → Int32 → Mm → Option (Int32 × Mm)} (hK43 : ∀ (x1 : Int32) (x2 : Int32) (x3 : Int32) (x4 : Int32) (x5 : Int32) (m : Mm) (H : Heap) (locs : List Loc) (ls : Array Slot), K43 x1 x2 x3 x4 x5 m = some (r, m') → va_P D vwCl (wsOf rLay rN cA A m) H → va_S (AW rN A) s.heap H locs → lv_has ls 7 [(0, .ref (A 0)), (1, .int x1), (2, .int x2), (3, .int x3), (4, .int x4), (5, .int x5)] → W p l e { frames := 5, cells := 0, slots := 0, locals := 120 } s m0 args below meth c H locs 0 0 (ZR below args s rLay rN D cA A (some (.int r)) m') (F0 m0 43 ls [])) (X : CX rLay rN D cA A p s m0 args meth c "BenchTowelsModel" cX12_goAll 7 (some .int)) : ∀ (x1 : Int32) (x2 : Int32) (x3 : Int32) (x5 : Int32) (s0 : Int32) (m : Mm) (H : Heap) (locs : List Loc) (ls : Array Slot), fX12_goAll_117 K43 x1 x2 x3 x5 s0 m = some (r, m') → va_P D vwCl (wsOf rLay rN cA A m) H → va_S (AW rN A) s.heap H locs → lv_has ls 7 [(0, .ref (A 0)), (1, .int x1), (2, .int x2), (3, .int x3), (5, .int x5)] → W p l e { frames := 5, cells := 0, slots := 0, locals := 120 } s m0 args below meth c H locs 0 0 (ZR below args s rLay rN D cA A (some (.int r)) m') (F0 m0 117 ls [.int s0]) := by
  have hx := X.1
  have hb := X.2.1
  have hml := X.2.2.1
  have hown := X.2.2.2.1
  have hts := X.2.2.2.2.1
  have hF := X.2.2.2.2.2.2.2.2.1
  intro x1 x2 x3 x5 s0 m H locs ls h hP hS hl
  rewrite [fX12_goAll_117] at h
  refine lv_iconst (v := 0) hx hb dX12_goAll_117 (by decide) ?_
  refine lv_iadd hx hb dX12_goAll_118 ?_
  obtain ⟨x4_26, ex_27, h⟩ := lt_some h
  refine lv_ren ex_27 ?_
  refine lv_istore (lv' := [(4, .int x4_26), (0, .ref (A 0)), (1, .int x1), (2, .int x2), (3, .int x3), (5, .int x5)]) hx hb dX12_goAll_119 hl (by decide) rfl (fun ls hl => ?_)
  obtain ⟨x5_28, ex_29, h⟩ := lt_some h
  refine lv_iinc (v := x5_28) (lv' := [(5, .int x5_28), (4, .int x4_26), (0, .ref (A 0)), (1, .int x1), (2, .int x2), (3, .int x3)]) hx hb dX12_goAll_121 hl (k := 5) rfl (by rw [ex_29]; rfl) (by decide) rfl (fun ls hl => ?_)
  refine lv_goto (tgt := 43) hx hb dX12_goAll_124 (by decide) ?_
  exact hK43 x1 x2 x3 x4_26 x5_28 m _ _ _ h hP hS (lv_sub hl [2, 3, 4, 5, 1, 0] rfl)

def fX12_goAll_43  : Nat → Int32 → Int32 → Int32 → Int32 → Int32 → Mm → Option (Int32 × Mm)
  | 0, _, _, _, _, _, _ => none
  | n + 1, x1, x2, x3, x4, x5, m => (if (x3 : Int32) ≤ x5 then some (x4, m) else gx x1 4 (bd (fX12_isIn ((Int32.toInt64 x2) + (Int32.toInt64 x5)) (0 : Int64) ((Int32.toInt64 (m 10 (ix x1))) - 1) m) fun r_15 m_16 => (if r_15 = 0 then some ((-12), m_16) else gx ((((40 : Int32) * x1) + x2) + x5) 160 (lt (m_16 11 (ix ((((40 : Int32) * x1) + x2) + x5))) fun x6_20 => bd (fX12_isAct x6_20 m_16) fun r_22 m_23 => (if r_22 = 0 then fX12_goAll_117 (fun x1 x2 x3 x4 x5 m => fX12_goAll_43 n x1 x2 x3 x4 x5 m) x1 x2 x3 x5 x4 m_23 else bd (fX12_isOver m_23) fun r_30 m_31 => (if r_30 = 0 then bd (fX12_goesWith x6_20 m_31) fun r_34 m_35 => lt (x4 + r_34) fun x4_37 => lt ((x5 : Int32) + 1) fun x5_39 => (fX12_goAll_43 n x1 x2 x3 x4_37 x5_39 m_35) else fX12_goAll_117 (fun x1 x2 x3 x4 x5 m => fX12_goAll_43 n x1 x2 x3 x4 x5 m) x1 x2 x3 x5 x4 m_31))))))
set_option maxHeartbeats 4000000 in
set_option maxRecDepth 100000 in
theorem tX12_goAll_43 (hI : InjA rN A)  {r : Int32} {m' : Mm} (X : CX rLay rN D cA A p s m0 args meth c "BenchTowelsModel" cX12_goAll 7 (some .int)) : ∀ (n : Nat) (x1 : Int32) (x2 : Int32) (x3 : Int32) (x4 : Int32) (x5 : Int32) (m : Mm) (H : Heap) (locs : List Loc) (ls : Array Slot), fX12_goAll_43 n x1 x2 x3 x4 x5 m = some (r, m') → va_P D vwCl (wsOf rLay rN cA A m) H → va_S (AW rN A) s.heap H locs → lv_has ls 7 [(0, .ref (A 0)), (1, .int x1), (2, .int x2), (3, .int x3), (4, .int x4), (5, .int x5)] → W p l e { frames := 5, cells := 0, slots := 0, locals := 120 } s m0 args below meth c H locs 0 0 (ZR below args s rLay rN D cA A (some (.int r)) m') (F0 m0 43 ls []) := by
  have hx := X.1
  have hb := X.2.1
  have hml := X.2.2.1
  have hown := X.2.2.2.1
  have hts := X.2.2.2.2.1
  have hF := X.2.2.2.2.2.2.2.2.1
  intro n
  induction n with
  | zero =>
    intro x1 x2 x3 x4 x5 m H locs ls h hP hS hl
    exact absurd h (by rewrite [fX12_goAll_43]; exact fun q => by cases q)
  | succ n ih =>
    intro x1 x2 x3 x4 x5 m H locs ls h hP hS hl
    rewrite [fX12_goAll_43] at h
    refine lv_iload hx hb dX12_goAll_43 (lv_at hl 5 rfl) ?_
    refine lv_iload_n hx hb dX12_goAll_45 rfl (lv_at hl 3 rfl) ?_
    refine lv_icmp_ge (tgt := 127) hx hb dX12_goAll_46 (by decide) (fun c_13 => ?_) (fun c_13 => ?_)
    · have h := ifp c_13 h
      refine lv_iload hx hb dX12_goAll_127 (lv_at hl 4 rfl) ?_
      exact r_iret X hP hS dX12_goAll_129 h
    · have h := ifn c_13 h
      refine lv_iload_n hx hb dX12_goAll_49 rfl (lv_at hl 2 rfl) ?_
      refine lv_i2l hx hb dX12_goAll_50 rfl ?_
      refine lv_iload hx hb dX12_goAll_51 (lv_at hl 5 rfl) ?_
      refine lv_i2l hx hb dX12_goAll_53 rfl ?_
      refine lv_ladd hx hb dX12_goAll_54 ?_
      refine lv_lconst (v := 0) hx hb dX12_goAll_55 (by decide) ?_
      refine lv_aload_n hx hb dX12_goAll_56 rfl (lv_at hl 0 rfl) ?_
      refine r_get kc_12 28 X hP (by decide) (L_ref _) (by decide) rfl wt_5_200 dX12_goAll_57 ?_
      refine lv_iload_n hx hb dX12_goAll_60 rfl (lv_at hl 1 rfl) ?_
      obtain ⟨hin_14, h⟩ := gx_some h
      refine r_iald X hP (by decide) (Lr_10 _) hin_14 rfl dX12_goAll_61 ?_
      refine lv_i2l hx hb dX12_goAll_62 rfl ?_
      refine lv_lconst (v := 1) hx hb dX12_goAll_63 (by decide) ?_
      refine lv_lsub hx hb dX12_goAll_64 ?_
      obtain ⟨r_15, m_16, hc_17, h⟩ := bd_some h
      refine c_S (rest := []) X hP hS (tX12_isIn hI  hc_17) wt_6_55 wt_6_56 wt_1_13 wt_6_57 hy_X12_isIn ⟨rfl, rfl⟩ ⟨Nat.le_of_ble_eq_true rfl, Nat.le_of_ble_eq_true rfl⟩ rfl hl.1 rfl (Nat.le_of_ble_eq_true rfl) dX12_goAll_65 rfl (fun H locs hP hS => ?_)
      refine lv_if_ne (tgt := 74) hx hb dX12_goAll_68 (by decide) (fun c_18 => ?_) (fun c_18 => ?_)
      · have h := ifn c_18 h
        refine lv_aload_n hx hb dX12_goAll_74 rfl (lv_at hl 0 rfl) ?_
        refine r_get kc_12 29 X hP (by decide) (L_ref _) (by decide) rfl wt_5_201 dX12_goAll_75 ?_
        refine lv_bipush (v := 40) hx hb dX12_goAll_78 (by decide) ?_
        refine lv_iload_n hx hb dX12_goAll_80 rfl (lv_at hl 1 rfl) ?_
        refine lv_imul hx hb dX12_goAll_81 ?_
        refine lv_iload_n hx hb dX12_goAll_82 rfl (lv_at hl 2 rfl) ?_
        refine lv_iadd hx hb dX12_goAll_83 ?_
        refine lv_iload hx hb dX12_goAll_84 (lv_at hl 5 rfl) ?_
        refine lv_iadd hx hb dX12_goAll_86 ?_
        obtain ⟨hin_19, h⟩ := gx_some h
        refine r_iald X hP (by decide) (Lr_11 _) hin_19 rfl dX12_goAll_87 ?_
        obtain ⟨x6_20, ex_21, h⟩ := lt_some h
        refine lv_ren ex_21 ?_
        refine lv_istore (lv' := [(6, .int x6_20), (0, .ref (A 0)), (1, .int x1), (2, .int x2), (3, .int x3), (4, .int x4), (5, .int x5)]) hx hb dX12_goAll_88 hl (by decide) rfl (fun ls hl => ?_)
        refine lv_iload hx hb dX12_goAll_90 (lv_at hl 5 rfl) ?_
        refine lv_aload_n hx hb dX12_goAll_92 rfl (lv_at hl 1 rfl) ?_
        refine lv_iload hx hb dX12_goAll_93 (lv_at hl 0 rfl) ?_
        obtain ⟨r_22, m_23, hc_24, h⟩ := bd_some h
        refine c_V (rest := [.int x4]) X hP hS (tX12_isAct hI  hc_24) (by decide) (L_ref _) rfl wt_7_192 wt_7_194 ws_5_7 wt_1_13 wt_7_195 ⟨rfl, hy_X12_isAct⟩ ⟨rfl, rfl⟩ ⟨Nat.le_of_ble_eq_true rfl, Nat.le_of_ble_eq_true rfl⟩ rfl hl.1 rfl (Nat.le_of_ble_eq_true rfl) dX12_goAll_95 rfl (fun H locs hP hS => ?_)
        refine lv_if_eq (tgt := 117) hx hb dX12_goAll_98 (by decide) (fun c_25 => ?_) (fun c_25 => ?_)
        · have h := ifp c_25 h
          exact tX12_goAll_117 hI   (fun x1 x2 x3 x4 x5 m H locs ls h hP hS hl => ih x1 x2 x3 x4 x5 m H locs ls  h hP hS hl) X x1 x2 x3 x5 x4 m_23 _ _ _  h hP hS (lv_sub hl [1, 2, 3, 4, 6] rfl)
        · have h := ifn c_25 h
          refine lv_aload_n hx hb dX12_goAll_101 rfl (lv_at hl 1 rfl) ?_
          obtain ⟨r_30, m_31, hc_32, h⟩ := bd_some h
          refine c_V (rest := [.int x4]) X hP hS (tX12_isOver hI  hc_32) (by decide) (L_ref _) rfl wt_6_147 wt_6_149 ws_3_2 wt_1_13 wt_6_150 ⟨rfl, hy_X12_isOver⟩ ⟨rfl, rfl⟩ ⟨Nat.le_of_ble_eq_true rfl, Nat.le_of_ble_eq_true rfl⟩ rfl hl.1 rfl (Nat.le_of_ble_eq_true rfl) dX12_goAll_102 rfl (fun H locs hP hS => ?_)
          refine lv_if_ne (tgt := 117) hx hb dX12_goAll_105 (by decide) (fun c_33 => ?_) (fun c_33 => ?_)
          · have h := ifn c_33 h
            exact tX12_goAll_117 hI   (fun x1 x2 x3 x4 x5 m H locs ls h hP hS hl => ih x1 x2 x3 x4 x5 m H locs ls  h hP hS hl) X x1 x2 x3 x5 x4 m_31 _ _ _  h hP hS (lv_sub hl [1, 2, 3, 4, 6] rfl)
          · have h := ifp c_33 h
            refine lv_aload_n hx hb dX12_goAll_108 rfl (lv_at hl 1 rfl) ?_
            refine lv_iload hx hb dX12_goAll_109 (lv_at hl 0 rfl) ?_
            obtain ⟨r_34, m_35, hc_36, h⟩ := bd_some h
            refine c_V (rest := [.int x4]) X hP hS (tX12_goesWith hI  hc_36) (by decide) (L_ref _) rfl wt_7_6 wt_7_8 ws_4_6 wt_1_13 wt_7_9 ⟨rfl, hy_X12_goesWith⟩ ⟨rfl, rfl⟩ ⟨Nat.le_of_ble_eq_true rfl, Nat.le_of_ble_eq_true rfl⟩ rfl hl.1 rfl (Nat.le_of_ble_eq_true rfl) dX12_goAll_111 rfl (fun H locs hP hS => ?_)
            refine lv_goto (tgt := 118) hx hb dX12_goAll_114 (by decide) ?_
            refine lv_iadd hx hb dX12_goAll_118 ?_
            obtain ⟨x4_37, ex_38, h⟩ := lt_some h
            refine lv_ren ex_38 ?_
            refine lv_istore (lv' := [(4, .int x4_37), (6, .int x6_20), (0, .ref (A 0)), (1, .int x1), (2, .int x2), (3, .int x3), (5, .int x5)]) hx hb dX12_goAll_119 hl (by decide) rfl (fun ls hl => ?_)
            obtain ⟨x5_39, ex_40, h⟩ := lt_some h
            refine lv_iinc (v := x5_39) (lv' := [(5, .int x5_39), (4, .int x4_37), (6, .int x6_20), (0, .ref (A 0)), (1, .int x1), (2, .int x2), (3, .int x3)]) hx hb dX12_goAll_121 hl (k := 6) rfl (by rw [ex_40]; rfl) (by decide) rfl (fun ls hl => ?_)
            refine lv_goto (tgt := 43) hx hb dX12_goAll_124 (by decide) ?_
            exact ih x1 x2 x3 x4_37 x5_39 m_35 _ _ _  h hP hS (lv_sub hl [3, 4, 5, 6, 1, 0] rfl)
      · have h := ifp c_18 h
        refine lv_bipush (v := (-12)) hx hb dX12_goAll_71 (by decide) ?_
        exact r_iret X hP hS dX12_goAll_73 h

def fX12_goAll (a1 : Int32) (a2 : Int32) (a3 : Int32) (m : Mm) : Option (Int32 × Mm) := bd (fX12_isSheet a1 m) fun r_1 m_2 => (if r_1 = 0 then some ((-1), m_2) else bd (fX12_isIn (Int32.toInt64 a3) (0 : Int64) (20 : Int64) m_2) fun r_5 m_6 => (if r_5 = 0 then some ((-1), m_6) else bd (fX12_lacks a1 (0 : Int32) m_6) fun r_9 m_10 => (if r_9 = 0 then (fX12_goAll_43  FL a1 a2 a3 0 0 m_10) else bd (fX12_lacks a1 (0 : Int32) m_10) fun r_41 m_42 => some (r_41, m_42))))
set_option maxHeartbeats 4000000 in
set_option maxRecDepth 100000 in
theorem tX12_goAll {l : Launch} {D : va_G} {cA : Nat → ClassId} {A : Nat → Nat} (hI : InjA rN A) {a1 : Int32} {a2 : Int32} {a3 : Int32} {m m' : Mm} {r : Int32} (h : fX12_goAll a1 a2 a3 m = some (r, m')) : Met0 l yX12_goAll cX12_goAll 7 (some .int) { frames := 5, cells := 0, slots := 0, locals := 120 } rLay rN D cA A [.ref (A 0), .int a1, .int a2, .int a3] m (some (.int r)) m' := by
  refine met0_of (by decide) (Nat.le_of_ble_eq_true rfl) hI ?_
  intro p e s m0 below meth c ls X hinit hP hS hl
  generalize ([.ref (A 0), .int a1, .int a2, .int a3] : List Value).toArray = args at X ⊢
  have hl : lv_has ls 7 [(0, .ref (A 0)), (1, .int a1), (2, .int a2), (3, .int a3)] := hl
  have X : CX rLay rN D cA A p s m0 args meth c "BenchTowelsModel" cX12_goAll 7 (some .int) := X
  have hx := X.1
  have hb := X.2.1
  have hml := X.2.2.1
  have hown := X.2.2.2.1
  have hts := X.2.2.2.2.1
  have hF := X.2.2.2.2.2.2.2.2.1
  rewrite [fX12_goAll] at h
  refine lv_iload_n hx hb dX12_goAll_0 rfl (lv_at hl 1 rfl) ?_
  obtain ⟨r_1, m_2, hc_3, h⟩ := bd_some h
  refine c_S (rest := []) X hP hS (tX12_isSheet hI  hc_3) wt_7_200 wt_7_201 wt_1_13 wt_7_202 hy_X12_isSheet ⟨rfl, rfl⟩ ⟨Nat.le_of_ble_eq_true rfl, Nat.le_of_ble_eq_true rfl⟩ rfl hl.1 rfl (Nat.le_of_ble_eq_true rfl) dX12_goAll_1 rfl (fun H locs hP hS => ?_)
  refine lv_if_eq (tgt := 19) hx hb dX12_goAll_4 (by decide) (fun c_4 => ?_) (fun c_4 => ?_)
  · have h := ifp c_4 h
    refine lv_iconst (v := (-1)) hx hb dX12_goAll_19 (by decide) ?_
    exact r_iret X hP hS dX12_goAll_20 h
  · have h := ifn c_4 h
    refine lv_iload_n hx hb dX12_goAll_7 rfl (lv_at hl 3 rfl) ?_
    refine lv_i2l hx hb dX12_goAll_8 rfl ?_
    refine lv_lconst (v := 0) hx hb dX12_goAll_9 (by decide) ?_
    refine lv_ldc2 (v := 20) hx hb hown (hts _ wt_7_220) dX12_goAll_10 ?_
    obtain ⟨r_5, m_6, hc_7, h⟩ := bd_some h
    refine c_S (rest := []) X hP hS (tX12_isIn hI  hc_7) wt_6_55 wt_6_56 wt_1_13 wt_6_57 hy_X12_isIn ⟨rfl, rfl⟩ ⟨Nat.le_of_ble_eq_true rfl, Nat.le_of_ble_eq_true rfl⟩ rfl hl.1 rfl (Nat.le_of_ble_eq_true rfl) dX12_goAll_13 rfl (fun H locs hP hS => ?_)
    refine lv_if_ne (tgt := 21) hx hb dX12_goAll_16 (by decide) (fun c_8 => ?_) (fun c_8 => ?_)
    · have h := ifn c_8 h
      refine lv_aload_n hx hb dX12_goAll_21 rfl (lv_at hl 0 rfl) ?_
      refine lv_iload_n hx hb dX12_goAll_22 rfl (lv_at hl 1 rfl) ?_
      refine lv_iconst (v := 0) hx hb dX12_goAll_23 (by decide) ?_
      obtain ⟨r_9, m_10, hc_11, h⟩ := bd_some h
      refine c_V (rest := []) X hP hS (tX12_lacks hI  hc_11) (by decide) (L_ref _) rfl wt_7_212 wt_7_214 ws_5_8 wt_1_13 wt_7_215 ⟨rfl, hy_X12_lacks⟩ ⟨rfl, rfl⟩ ⟨Nat.le_of_ble_eq_true rfl, Nat.le_of_ble_eq_true rfl⟩ rfl hl.1 rfl (Nat.le_of_ble_eq_true rfl) dX12_goAll_24 rfl (fun H locs hP hS => ?_)
      refine lv_if_eq (tgt := 37) hx hb dX12_goAll_27 (by decide) (fun c_12 => ?_) (fun c_12 => ?_)
      · have h := ifp c_12 h
        refine lv_iconst (v := 0) hx hb dX12_goAll_37 (by decide) ?_
        refine lv_istore (lv' := [(4, .int 0), (0, .ref (A 0)), (1, .int a1), (2, .int a2), (3, .int a3)]) hx hb dX12_goAll_38 hl (by decide) rfl (fun ls hl => ?_)
        refine lv_iconst (v := 0) hx hb dX12_goAll_40 (by decide) ?_
        refine lv_istore (lv' := [(5, .int 0), (4, .int 0), (0, .ref (A 0)), (1, .int a1), (2, .int a2), (3, .int a3)]) hx hb dX12_goAll_41 hl (by decide) rfl (fun ls hl => ?_)
        exact tX12_goAll_43 hI    X FL a1 a2 a3 0 0 m_10 _ _ _  h hP hS (lv_sub hl [2, 3, 4, 5, 1, 0] rfl)
      · have h := ifn c_12 h
        refine lv_aload_n hx hb dX12_goAll_30 rfl (lv_at hl 0 rfl) ?_
        refine lv_iload_n hx hb dX12_goAll_31 rfl (lv_at hl 1 rfl) ?_
        refine lv_iconst (v := 0) hx hb dX12_goAll_32 (by decide) ?_
        obtain ⟨r_41, m_42, hc_43, h⟩ := bd_some h
        refine c_V (rest := []) X hP hS (tX12_lacks hI  hc_43) (by decide) (L_ref _) rfl wt_7_212 wt_7_214 ws_5_8 wt_1_13 wt_7_215 ⟨rfl, hy_X12_lacks⟩ ⟨rfl, rfl⟩ ⟨Nat.le_of_ble_eq_true rfl, Nat.le_of_ble_eq_true rfl⟩ rfl hl.1 rfl (Nat.le_of_ble_eq_true rfl) dX12_goAll_33 rfl (fun H locs hP hS => ?_)
        exact r_iret X hP hS dX12_goAll_36 h
    · have h := ifp c_8 h
      refine lv_iconst (v := (-1)) hx hb dX12_goAll_19 (by decide) ?_
      exact r_iret X hP hS dX12_goAll_20 h

def fX12_sumBy_6  : Nat → Int32 → Int32 → Int32 → Int32 → Int32 → Mm → Option (Int32 × Mm)
  | 0, _, _, _, _, _, _ => none
  | n + 1, x1, x2, x3, x4, x5, m => (if (x3 : Int32) ≤ x5 then some (x4, m) else gx x1 4 (bd (fX12_isIn ((Int32.toInt64 x2) + (Int32.toInt64 x5)) (0 : Int64) ((Int32.toInt64 (m 10 (ix x1))) - 1) m) fun r_3 m_4 => (if r_3 = 0 then some ((-12), m_4) else gx ((((40 : Int32) * x1) + x2) + x5) 160 (lt (m_4 11 (ix ((((40 : Int32) * x1) + x2) + x5))) fun x6_8 => bd (fX12_isAct x6_8 m_4) fun r_10 m_11 => (if r_10 = 0 then some ((-4), m_11) else bd (fX12_isOver m_11) fun r_14 m_15 => (if r_14 = 0 then bd (fX12_goesWith x6_8 m_15) fun r_18 m_19 => lt (x4 + r_18) fun x4_21 => lt ((x5 : Int32) + 1) fun x5_23 => (fX12_sumBy_6 n x1 x2 x3 x4_21 x5_23 m_19) else some ((-4), m_15)))))))
set_option maxHeartbeats 4000000 in
set_option maxRecDepth 100000 in
theorem tX12_sumBy_6 (hI : InjA rN A)  {r : Int32} {m' : Mm} (X : CX rLay rN D cA A p s m0 args meth c "BenchTowelsModel" cX12_sumBy 7 (some .int)) : ∀ (n : Nat) (x1 : Int32) (x2 : Int32) (x3 : Int32) (x4 : Int32) (x5 : Int32) (m : Mm) (H : Heap) (locs : List Loc) (ls : Array Slot), fX12_sumBy_6 n x1 x2 x3 x4 x5 m = some (r, m') → va_P D vwCl (wsOf rLay rN cA A m) H → va_S (AW rN A) s.heap H locs → lv_has ls 7 [(0, .ref (A 0)), (1, .int x1), (2, .int x2), (3, .int x3), (4, .int x4), (5, .int x5)] → W p l e { frames := 5, cells := 0, slots := 0, locals := 120 } s m0 args below meth c H locs 0 0 (ZR below args s rLay rN D cA A (some (.int r)) m') (F0 m0 6 ls []) := by
  have hx := X.1
  have hb := X.2.1
  have hml := X.2.2.1
  have hown := X.2.2.2.1
  have hts := X.2.2.2.2.1
  have hF := X.2.2.2.2.2.2.2.2.1
  intro n
  induction n with
  | zero =>
    intro x1 x2 x3 x4 x5 m H locs ls h hP hS hl
    exact absurd h (by rewrite [fX12_sumBy_6]; exact fun q => by cases q)
  | succ n ih =>
    intro x1 x2 x3 x4 x5 m H locs ls h hP hS hl
    rewrite [fX12_sumBy_6] at h
    refine lv_iload hx hb dX12_sumBy_6 (lv_at hl 5 rfl) ?_
    refine lv_iload_n hx hb dX12_sumBy_8 rfl (lv_at hl 3 rfl) ?_
    refine lv_icmp_ge (tgt := 89) hx hb dX12_sumBy_9 (by decide) (fun c_1 => ?_) (fun c_1 => ?_)
    · have h := ifp c_1 h
      refine lv_iload hx hb dX12_sumBy_89 (lv_at hl 4 rfl) ?_
      exact r_iret X hP hS dX12_sumBy_91 h
    · have h := ifn c_1 h
      refine lv_iload_n hx hb dX12_sumBy_12 rfl (lv_at hl 2 rfl) ?_
      refine lv_i2l hx hb dX12_sumBy_13 rfl ?_
      refine lv_iload hx hb dX12_sumBy_14 (lv_at hl 5 rfl) ?_
      refine lv_i2l hx hb dX12_sumBy_16 rfl ?_
      refine lv_ladd hx hb dX12_sumBy_17 ?_
      refine lv_lconst (v := 0) hx hb dX12_sumBy_18 (by decide) ?_
      refine lv_aload_n hx hb dX12_sumBy_19 rfl (lv_at hl 0 rfl) ?_
      refine r_get kc_12 28 X hP (by decide) (L_ref _) (by decide) rfl wt_5_200 dX12_sumBy_20 ?_
      refine lv_iload_n hx hb dX12_sumBy_23 rfl (lv_at hl 1 rfl) ?_
      obtain ⟨hin_2, h⟩ := gx_some h
      refine r_iald X hP (by decide) (Lr_10 _) hin_2 rfl dX12_sumBy_24 ?_
      refine lv_i2l hx hb dX12_sumBy_25 rfl ?_
      refine lv_lconst (v := 1) hx hb dX12_sumBy_26 (by decide) ?_
      refine lv_lsub hx hb dX12_sumBy_27 ?_
      obtain ⟨r_3, m_4, hc_5, h⟩ := bd_some h
      refine c_S (rest := []) X hP hS (tX12_isIn hI  hc_5) wt_6_55 wt_6_56 wt_1_13 wt_6_57 hy_X12_isIn ⟨rfl, rfl⟩ ⟨Nat.le_of_ble_eq_true rfl, Nat.le_of_ble_eq_true rfl⟩ rfl hl.1 rfl (Nat.le_of_ble_eq_true rfl) dX12_sumBy_28 rfl (fun H locs hP hS => ?_)
      refine lv_if_ne (tgt := 37) hx hb dX12_sumBy_31 (by decide) (fun c_6 => ?_) (fun c_6 => ?_)
      · have h := ifn c_6 h
        refine lv_aload_n hx hb dX12_sumBy_37 rfl (lv_at hl 0 rfl) ?_
        refine r_get kc_12 29 X hP (by decide) (L_ref _) (by decide) rfl wt_5_201 dX12_sumBy_38 ?_
        refine lv_bipush (v := 40) hx hb dX12_sumBy_41 (by decide) ?_
        refine lv_iload_n hx hb dX12_sumBy_43 rfl (lv_at hl 1 rfl) ?_
        refine lv_imul hx hb dX12_sumBy_44 ?_
        refine lv_iload_n hx hb dX12_sumBy_45 rfl (lv_at hl 2 rfl) ?_
        refine lv_iadd hx hb dX12_sumBy_46 ?_
        refine lv_iload hx hb dX12_sumBy_47 (lv_at hl 5 rfl) ?_
        refine lv_iadd hx hb dX12_sumBy_49 ?_
        obtain ⟨hin_7, h⟩ := gx_some h
        refine r_iald X hP (by decide) (Lr_11 _) hin_7 rfl dX12_sumBy_50 ?_
        obtain ⟨x6_8, ex_9, h⟩ := lt_some h
        refine lv_ren ex_9 ?_
        refine lv_istore (lv' := [(6, .int x6_8), (0, .ref (A 0)), (1, .int x1), (2, .int x2), (3, .int x3), (4, .int x4), (5, .int x5)]) hx hb dX12_sumBy_51 hl (by decide) rfl (fun ls hl => ?_)
        refine lv_aload_n hx hb dX12_sumBy_53 rfl (lv_at hl 1 rfl) ?_
        refine lv_iload hx hb dX12_sumBy_54 (lv_at hl 0 rfl) ?_
        obtain ⟨r_10, m_11, hc_12, h⟩ := bd_some h
        refine c_V (rest := []) X hP hS (tX12_isAct hI  hc_12) (by decide) (L_ref _) rfl wt_7_192 wt_7_194 ws_5_7 wt_1_13 wt_7_195 ⟨rfl, hy_X12_isAct⟩ ⟨rfl, rfl⟩ ⟨Nat.le_of_ble_eq_true rfl, Nat.le_of_ble_eq_true rfl⟩ rfl hl.1 rfl (Nat.le_of_ble_eq_true rfl) dX12_sumBy_56 rfl (fun H locs hP hS => ?_)
        refine lv_if_eq (tgt := 69) hx hb dX12_sumBy_59 (by decide) (fun c_13 => ?_) (fun c_13 => ?_)
        · have h := ifp c_13 h
          refine lv_bipush (v := (-4)) hx hb dX12_sumBy_69 (by decide) ?_
          exact r_iret X hP hS dX12_sumBy_71 h
        · have h := ifn c_13 h
          refine lv_aload_n hx hb dX12_sumBy_62 rfl (lv_at hl 1 rfl) ?_
          obtain ⟨r_14, m_15, hc_16, h⟩ := bd_some h
          refine c_V (rest := []) X hP hS (tX12_isOver hI  hc_16) (by decide) (L_ref _) rfl wt_6_147 wt_6_149 ws_3_2 wt_1_13 wt_6_150 ⟨rfl, hy_X12_isOver⟩ ⟨rfl, rfl⟩ ⟨Nat.le_of_ble_eq_true rfl, Nat.le_of_ble_eq_true rfl⟩ rfl hl.1 rfl (Nat.le_of_ble_eq_true rfl) dX12_sumBy_63 rfl (fun H locs hP hS => ?_)
          refine lv_if_eq (tgt := 72) hx hb dX12_sumBy_66 (by decide) (fun c_17 => ?_) (fun c_17 => ?_)
          · have h := ifp c_17 h
            refine lv_iload hx hb dX12_sumBy_72 (lv_at hl 5 rfl) ?_
            refine lv_aload_n hx hb dX12_sumBy_74 rfl (lv_at hl 1 rfl) ?_
            refine lv_iload hx hb dX12_sumBy_75 (lv_at hl 0 rfl) ?_
            obtain ⟨r_18, m_19, hc_20, h⟩ := bd_some h
            refine c_V (rest := [.int x4]) X hP hS (tX12_goesWith hI  hc_20) (by decide) (L_ref _) rfl wt_7_6 wt_7_8 ws_4_6 wt_1_13 wt_7_9 ⟨rfl, hy_X12_goesWith⟩ ⟨rfl, rfl⟩ ⟨Nat.le_of_ble_eq_true rfl, Nat.le_of_ble_eq_true rfl⟩ rfl hl.1 rfl (Nat.le_of_ble_eq_true rfl) dX12_sumBy_77 rfl (fun H locs hP hS => ?_)
            refine lv_iadd hx hb dX12_sumBy_80 ?_
            obtain ⟨x4_21, ex_22, h⟩ := lt_some h
            refine lv_ren ex_22 ?_
            refine lv_istore (lv' := [(4, .int x4_21), (6, .int x6_8), (0, .ref (A 0)), (1, .int x1), (2, .int x2), (3, .int x3), (5, .int x5)]) hx hb dX12_sumBy_81 hl (by decide) rfl (fun ls hl => ?_)
            obtain ⟨x5_23, ex_24, h⟩ := lt_some h
            refine lv_iinc (v := x5_23) (lv' := [(5, .int x5_23), (4, .int x4_21), (6, .int x6_8), (0, .ref (A 0)), (1, .int x1), (2, .int x2), (3, .int x3)]) hx hb dX12_sumBy_83 hl (k := 6) rfl (by rw [ex_24]; rfl) (by decide) rfl (fun ls hl => ?_)
            refine lv_goto (tgt := 6) hx hb dX12_sumBy_86 (by decide) ?_
            exact ih x1 x2 x3 x4_21 x5_23 m_19 _ _ _  h hP hS (lv_sub hl [3, 4, 5, 6, 1, 0] rfl)
          · have h := ifn c_17 h
            refine lv_bipush (v := (-4)) hx hb dX12_sumBy_69 (by decide) ?_
            exact r_iret X hP hS dX12_sumBy_71 h
      · have h := ifp c_6 h
        refine lv_bipush (v := (-12)) hx hb dX12_sumBy_34 (by decide) ?_
        exact r_iret X hP hS dX12_sumBy_36 h

def fX12_sumBy (a1 : Int32) (a2 : Int32) (a3 : Int32) (m : Mm) : Option (Int32 × Mm) := (fX12_sumBy_6  FL a1 a2 a3 0 0 m)
set_option maxHeartbeats 4000000 in
set_option maxRecDepth 100000 in
theorem tX12_sumBy {l : Launch} {D : va_G} {cA : Nat → ClassId} {A : Nat → Nat} (hI : InjA rN A) {a1 : Int32} {a2 : Int32} {a3 : Int32} {m m' : Mm} {r : Int32} (h : fX12_sumBy a1 a2 a3 m = some (r, m')) : Met0 l yX12_sumBy cX12_sumBy 7 (some .int) { frames := 5, cells := 0, slots := 0, locals := 120 } rLay rN D cA A [.ref (A 0), .int a1, .int a2, .int a3] m (some (.int r)) m' := by
  refine met0_of (by decide) (Nat.le_of_ble_eq_true rfl) hI ?_
  intro p e s m0 below meth c ls X hinit hP hS hl
  generalize ([.ref (A 0), .int a1, .int a2, .int a3] : List Value).toArray = args at X ⊢
  have hl : lv_has ls 7 [(0, .ref (A 0)), (1, .int a1), (2, .int a2), (3, .int a3)] := hl
  have X : CX rLay rN D cA A p s m0 args meth c "BenchTowelsModel" cX12_sumBy 7 (some .int) := X
  have hx := X.1
  have hb := X.2.1
  have hml := X.2.2.1
  have hown := X.2.2.2.1
  have hts := X.2.2.2.2.1
  have hF := X.2.2.2.2.2.2.2.2.1
  rewrite [fX12_sumBy] at h
  refine lv_iconst (v := 0) hx hb dX12_sumBy_0 (by decide) ?_
  refine lv_istore (lv' := [(4, .int 0), (0, .ref (A 0)), (1, .int a1), (2, .int a2), (3, .int a3)]) hx hb dX12_sumBy_1 hl (by decide) rfl (fun ls hl => ?_)
  refine lv_iconst (v := 0) hx hb dX12_sumBy_3 (by decide) ?_
  refine lv_istore (lv' := [(5, .int 0), (4, .int 0), (0, .ref (A 0)), (1, .int a1), (2, .int a2), (3, .int a3)]) hx hb dX12_sumBy_4 hl (by decide) rfl (fun ls hl => ?_)
  exact tX12_sumBy_6 hI    X FL a1 a2 a3 0 0 m _ _ _  h hP hS (lv_sub hl [2, 3, 4, 5, 1, 0] rfl)

def fX12_wouldBe (a1 : Int32) (a2 : Int32) (a3 : Int32) (m : Mm) : Option (Int32 × Mm) := bd (fX12_isSheet a1 m) fun r_1 m_2 => (if r_1 = 0 then some ((-1), m_2) else bd (fX12_isIn (Int32.toInt64 a3) (0 : Int64) (20 : Int64) m_2) fun r_5 m_6 => (if r_5 = 0 then some ((-1), m_6) else bd (fX12_lacks a1 (0 : Int32) m_6) fun r_9 m_10 => (if r_9 = 0 then bd (fX12_laysAside (0 : Int32) m_10) fun r_13 m_14 => bd (fX12_sumBy a1 a2 a3 m_14) fun r_16 m_17 => bd (fX12_laysBack (0 : Int32) m_17) fun r_19 m_20 => some (r_16, m_20) else bd (fX12_lacks a1 (0 : Int32) m_10) fun r_22 m_23 => some (r_22, m_23))))
set_option maxHeartbeats 4000000 in
set_option maxRecDepth 100000 in
theorem tX12_wouldBe {l : Launch} {D : va_G} {cA : Nat → ClassId} {A : Nat → Nat} (hI : InjA rN A) {a1 : Int32} {a2 : Int32} {a3 : Int32} {m m' : Mm} {r : Int32} (h : fX12_wouldBe a1 a2 a3 m = some (r, m')) : Met0 l yX12_wouldBe cX12_wouldBe 5 (some .int) { frames := 6, cells := 0, slots := 0, locals := 146 } rLay rN D cA A [.ref (A 0), .int a1, .int a2, .int a3] m (some (.int r)) m' := by
  refine met0_of (by decide) (Nat.le_of_ble_eq_true rfl) hI ?_
  intro p e s m0 below meth c ls X hinit hP hS hl
  generalize ([.ref (A 0), .int a1, .int a2, .int a3] : List Value).toArray = args at X ⊢
  have hl : lv_has ls 5 [(0, .ref (A 0)), (1, .int a1), (2, .int a2), (3, .int a3)] := hl
  have X : CX rLay rN D cA A p s m0 args meth c "BenchTowelsModel" cX12_wouldBe 5 (some .int) := X
  have hx := X.1
  have hb := X.2.1
  have hml := X.2.2.1
  have hown := X.2.2.2.1
  have hts := X.2.2.2.2.1
  have hF := X.2.2.2.2.2.2.2.2.1
  rewrite [fX12_wouldBe] at h
  refine lv_iload_n hx hb dX12_wouldBe_0 rfl (lv_at hl 1 rfl) ?_
  obtain ⟨r_1, m_2, hc_3, h⟩ := bd_some h
  refine c_S (rest := []) X hP hS (tX12_isSheet hI  hc_3) wt_7_200 wt_7_201 wt_1_13 wt_7_202 hy_X12_isSheet ⟨rfl, rfl⟩ ⟨Nat.le_of_ble_eq_true rfl, Nat.le_of_ble_eq_true rfl⟩ rfl hl.1 rfl (Nat.le_of_ble_eq_true rfl) dX12_wouldBe_1 rfl (fun H locs hP hS => ?_)
  refine lv_if_eq (tgt := 19) hx hb dX12_wouldBe_4 (by decide) (fun c_4 => ?_) (fun c_4 => ?_)
  · have h := ifp c_4 h
    refine lv_iconst (v := (-1)) hx hb dX12_wouldBe_19 (by decide) ?_
    exact r_iret X hP hS dX12_wouldBe_20 h
  · have h := ifn c_4 h
    refine lv_iload_n hx hb dX12_wouldBe_7 rfl (lv_at hl 3 rfl) ?_
    refine lv_i2l hx hb dX12_wouldBe_8 rfl ?_
    refine lv_lconst (v := 0) hx hb dX12_wouldBe_9 (by decide) ?_
    refine lv_ldc2 (v := 20) hx hb hown (hts _ wt_7_220) dX12_wouldBe_10 ?_
    obtain ⟨r_5, m_6, hc_7, h⟩ := bd_some h
    refine c_S (rest := []) X hP hS (tX12_isIn hI  hc_7) wt_6_55 wt_6_56 wt_1_13 wt_6_57 hy_X12_isIn ⟨rfl, rfl⟩ ⟨Nat.le_of_ble_eq_true rfl, Nat.le_of_ble_eq_true rfl⟩ rfl hl.1 rfl (Nat.le_of_ble_eq_true rfl) dX12_wouldBe_13 rfl (fun H locs hP hS => ?_)
    refine lv_if_ne (tgt := 21) hx hb dX12_wouldBe_16 (by decide) (fun c_8 => ?_) (fun c_8 => ?_)
    · have h := ifn c_8 h
      refine lv_aload_n hx hb dX12_wouldBe_21 rfl (lv_at hl 0 rfl) ?_
      refine lv_iload_n hx hb dX12_wouldBe_22 rfl (lv_at hl 1 rfl) ?_
      refine lv_iconst (v := 0) hx hb dX12_wouldBe_23 (by decide) ?_
      obtain ⟨r_9, m_10, hc_11, h⟩ := bd_some h
      refine c_V (rest := []) X hP hS (tX12_lacks hI  hc_11) (by decide) (L_ref _) rfl wt_7_212 wt_7_214 ws_5_8 wt_1_13 wt_7_215 ⟨rfl, hy_X12_lacks⟩ ⟨rfl, rfl⟩ ⟨Nat.le_of_ble_eq_true rfl, Nat.le_of_ble_eq_true rfl⟩ rfl hl.1 rfl (Nat.le_of_ble_eq_true rfl) dX12_wouldBe_24 rfl (fun H locs hP hS => ?_)
      refine lv_if_eq (tgt := 37) hx hb dX12_wouldBe_27 (by decide) (fun c_12 => ?_) (fun c_12 => ?_)
      · have h := ifp c_12 h
        refine lv_aload_n hx hb dX12_wouldBe_37 rfl (lv_at hl 0 rfl) ?_
        refine lv_iconst (v := 0) hx hb dX12_wouldBe_38 (by decide) ?_
        obtain ⟨r_13, m_14, hc_15, h⟩ := bd_some h
        refine c_V (rest := []) X hP hS (tX12_laysAside hI  hc_15) (by decide) (L_ref _) rfl wt_7_28 wt_7_30 ws_4_9 wt_1_13 wt_7_31 ⟨rfl, hy_X12_laysAside⟩ ⟨rfl, rfl⟩ ⟨Nat.le_of_ble_eq_true rfl, Nat.le_of_ble_eq_true rfl⟩ rfl hl.1 rfl (Nat.le_of_ble_eq_true rfl) dX12_wouldBe_39 rfl (fun H locs hP hS => ?_)
        refine lv_aload_n hx hb dX12_wouldBe_42 rfl (lv_at hl 0 rfl) ?_
        refine lv_iload_n hx hb dX12_wouldBe_43 rfl (lv_at hl 1 rfl) ?_
        refine lv_iload_n hx hb dX12_wouldBe_44 rfl (lv_at hl 2 rfl) ?_
        refine lv_iload_n hx hb dX12_wouldBe_45 rfl (lv_at hl 3 rfl) ?_
        obtain ⟨r_16, m_17, hc_18, h⟩ := bd_some h
        refine c_V (rest := []) X hP hS (tX12_sumBy hI  hc_18) (by decide) (L_ref _) rfl wt_7_225 wt_7_227 ws_5_9 wt_1_13 wt_7_228 ⟨rfl, hy_X12_sumBy⟩ ⟨rfl, rfl⟩ ⟨Nat.le_of_ble_eq_true rfl, Nat.le_of_ble_eq_true rfl⟩ rfl hl.1 rfl (Nat.le_of_ble_eq_true rfl) dX12_wouldBe_46 rfl (fun H locs hP hS => ?_)
        refine lv_istore (lv' := [(4, .int r_16), (0, .ref (A 0)), (1, .int a1), (2, .int a2), (3, .int a3)]) hx hb dX12_wouldBe_49 hl (by decide) rfl (fun ls hl => ?_)
        refine lv_aload_n hx hb dX12_wouldBe_51 rfl (lv_at hl 1 rfl) ?_
        refine lv_iconst (v := 0) hx hb dX12_wouldBe_52 (by decide) ?_
        obtain ⟨r_19, m_20, hc_21, h⟩ := bd_some h
        refine c_V (rest := []) X hP hS (tX12_laysBack hI  hc_21) (by decide) (L_ref _) rfl wt_7_32 wt_7_34 ws_4_10 wt_1_13 wt_7_35 ⟨rfl, hy_X12_laysBack⟩ ⟨rfl, rfl⟩ ⟨Nat.le_of_ble_eq_true rfl, Nat.le_of_ble_eq_true rfl⟩ rfl hl.1 rfl (Nat.le_of_ble_eq_true rfl) dX12_wouldBe_53 rfl (fun H locs hP hS => ?_)
        refine lv_iload hx hb dX12_wouldBe_56 (lv_at hl 0 rfl) ?_
        exact r_iret X hP hS dX12_wouldBe_58 h
      · have h := ifn c_12 h
        refine lv_aload_n hx hb dX12_wouldBe_30 rfl (lv_at hl 0 rfl) ?_
        refine lv_iload_n hx hb dX12_wouldBe_31 rfl (lv_at hl 1 rfl) ?_
        refine lv_iconst (v := 0) hx hb dX12_wouldBe_32 (by decide) ?_
        obtain ⟨r_22, m_23, hc_24, h⟩ := bd_some h
        refine c_V (rest := []) X hP hS (tX12_lacks hI  hc_24) (by decide) (L_ref _) rfl wt_7_212 wt_7_214 ws_5_8 wt_1_13 wt_7_215 ⟨rfl, hy_X12_lacks⟩ ⟨rfl, rfl⟩ ⟨Nat.le_of_ble_eq_true rfl, Nat.le_of_ble_eq_true rfl⟩ rfl hl.1 rfl (Nat.le_of_ble_eq_true rfl) dX12_wouldBe_33 rfl (fun H locs hP hS => ?_)
        exact r_iret X hP hS dX12_wouldBe_36 h
    · have h := ifp c_8 h
      refine lv_iconst (v := (-1)) hx hb dX12_wouldBe_19 (by decide) ?_
      exact r_iret X hP hS dX12_wouldBe_20 h

def fX12_shelf_118  (x1 : Int32) (x3 : Int32) (x4 : Int32) (s0 : Int32) (s1 : Int32) (m : Mm) : Option (Int32 × Mm) := gx s1 4 (lt (up m 13 (ix s1) s0) fun m_20 => (if x4 = 0 then gx x1 4 (lt (up m_20 14 (ix x1) 0) fun m_24 => some (1, m_24)) else gx x3 4 (gx x1 4 (lt (up m_20 14 (ix x1) (m_20 10 (ix x3))) fun m_28 => some (1, m_28)))))
set_option maxHeartbeats 4000000 in
set_option maxRecDepth 100000 in
theorem tX12_shelf_118 (hI : InjA rN A)  {r : Int32} {m' : Mm} (X : CX rLay rN D cA A p s m0 args meth c "BenchTowelsModel" cX12_shelf 5 (some .int)) : ∀ (x1 : Int32) (x3 : Int32) (x4 : Int32) (s0 : Int32) (s1 : Int32) (m : Mm) (H : Heap) (locs : List Loc) (ls : Array Slot), fX12_shelf_118 x1 x3 x4 s0 s1 m = some (r, m') → va_P D vwCl (wsOf rLay rN cA A m) H → va_S (AW rN A) s.heap H locs → lv_has ls 5 [(0, .ref (A 0)), (1, .int x1), (3, .int x3), (4, .int x4)] → W p l e { frames := 2, cells := 0, slots := 0, locals := 45 } s m0 args below meth c H locs 0 0 (ZR below args s rLay rN D cA A (some (.int r)) m') (F0 m0 118 ls [.int s0, .int s1, .ref (A 13)]) := by
  have hx := X.1
  have hb := X.2.1
  have hml := X.2.2.1
  have hown := X.2.2.2.1
  have hts := X.2.2.2.2.1
  have hF := X.2.2.2.2.2.2.2.2.1
  intro x1 x3 x4 s0 s1 m H locs ls h hP hS hl
  rewrite [fX12_shelf_118] at h
  obtain ⟨hin_19, h⟩ := gx_some h
  obtain ⟨m_20, em_21, h⟩ := lt_some h
  refine r_iast X hP hS (by decide) Lr_13 hin_19 rfl dX12_shelf_118 em_21 (fun H locs hP hS => ?_)
  refine lv_aload_n hx hb dX12_shelf_119 rfl (lv_at hl 0 rfl) ?_
  refine r_get kc_12 32 X hP (by decide) (L_ref _) (by decide) rfl wt_5_204 dX12_shelf_120 ?_
  refine lv_iload_n hx hb dX12_shelf_123 rfl (lv_at hl 1 rfl) ?_
  refine lv_iload hx hb dX12_shelf_124 (lv_at hl 3 rfl) ?_
  refine lv_if_eq (tgt := 138) hx hb dX12_shelf_126 (by decide) (fun c_22 => ?_) (fun c_22 => ?_)
  · have h := ifp c_22 h
    refine lv_iconst (v := 0) hx hb dX12_shelf_138 (by decide) ?_
    obtain ⟨hin_23, h⟩ := gx_some h
    obtain ⟨m_24, em_25, h⟩ := lt_some h
    refine r_iast X hP hS (by decide) Lr_14 hin_23 rfl dX12_shelf_139 em_25 (fun H locs hP hS => ?_)
    refine lv_iconst (v := 1) hx hb dX12_shelf_140 (by decide) ?_
    exact r_iret X hP hS dX12_shelf_141 h
  · have h := ifn c_22 h
    refine lv_aload_n hx hb dX12_shelf_129 rfl (lv_at hl 0 rfl) ?_
    refine r_get kc_12 28 X hP (by decide) (L_ref _) (by decide) rfl wt_5_200 dX12_shelf_130 ?_
    refine lv_iload_n hx hb dX12_shelf_133 rfl (lv_at hl 2 rfl) ?_
    obtain ⟨hin_26, h⟩ := gx_some h
    refine r_iald X hP (by decide) (Lr_10 _) hin_26 rfl dX12_shelf_134 ?_
    refine lv_goto (tgt := 139) hx hb dX12_shelf_135 (by decide) ?_
    obtain ⟨hin_27, h⟩ := gx_some h
    obtain ⟨m_28, em_29, h⟩ := lt_some h
    refine r_iast X hP hS (by decide) Lr_14 hin_27 rfl dX12_shelf_139 em_29 (fun H locs hP hS => ?_)
    refine lv_iconst (v := 1) hx hb dX12_shelf_140 (by decide) ?_
    exact r_iret X hP hS dX12_shelf_141 h

def fX12_shelf_89  (x1 : Int32) (x2 : Int32) (x3 : Int32) (x4 : Int32) (s0 : Int32) (s1 : Int32) (m : Mm) : Option (Int32 × Mm) := gx s1 4 (lt (up m 12 (ix s1) s0) fun m_15 => (if x2 = 0 then (fX12_shelf_118  x1 x3 x4 x3 x1 m_15) else (if x4 = 0 then (fX12_shelf_118  x1 x3 x4 0 x1 m_15) else gx x3 4 ((fX12_shelf_118  x1 x3 x4 (m_15 9 (ix x3)) x1 m_15)))))
set_option maxHeartbeats 4000000 in
set_option maxRecDepth 100000 in
theorem tX12_shelf_89 (hI : InjA rN A)  {r : Int32} {m' : Mm} (X : CX rLay rN D cA A p s m0 args meth c "BenchTowelsModel" cX12_shelf 5 (some .int)) : ∀ (x1 : Int32) (x2 : Int32) (x3 : Int32) (x4 : Int32) (s0 : Int32) (s1 : Int32) (m : Mm) (H : Heap) (locs : List Loc) (ls : Array Slot), fX12_shelf_89 x1 x2 x3 x4 s0 s1 m = some (r, m') → va_P D vwCl (wsOf rLay rN cA A m) H → va_S (AW rN A) s.heap H locs → lv_has ls 5 [(0, .ref (A 0)), (1, .int x1), (2, .int x2), (3, .int x3), (4, .int x4)] → W p l e { frames := 2, cells := 0, slots := 0, locals := 45 } s m0 args below meth c H locs 0 0 (ZR below args s rLay rN D cA A (some (.int r)) m') (F0 m0 89 ls [.int s0, .int s1, .ref (A 12)]) := by
  have hx := X.1
  have hb := X.2.1
  have hml := X.2.2.1
  have hown := X.2.2.2.1
  have hts := X.2.2.2.2.1
  have hF := X.2.2.2.2.2.2.2.2.1
  intro x1 x2 x3 x4 s0 s1 m H locs ls h hP hS hl
  rewrite [fX12_shelf_89] at h
  obtain ⟨hin_14, h⟩ := gx_some h
  obtain ⟨m_15, em_16, h⟩ := lt_some h
  refine r_iast X hP hS (by decide) Lr_12 hin_14 rfl dX12_shelf_89 em_16 (fun H locs hP hS => ?_)
  refine lv_aload_n hx hb dX12_shelf_90 rfl (lv_at hl 0 rfl) ?_
  refine r_get kc_12 31 X hP (by decide) (L_ref _) (by decide) rfl wt_5_203 dX12_shelf_91 ?_
  refine lv_iload_n hx hb dX12_shelf_94 rfl (lv_at hl 1 rfl) ?_
  refine lv_iload_n hx hb dX12_shelf_95 rfl (lv_at hl 2 rfl) ?_
  refine lv_if_ne (tgt := 103) hx hb dX12_shelf_96 (by decide) (fun c_17 => ?_) (fun c_17 => ?_)
  · have h := ifn c_17 h
    refine lv_iload hx hb dX12_shelf_103 (lv_at hl 4 rfl) ?_
    refine lv_if_eq (tgt := 117) hx hb dX12_shelf_105 (by decide) (fun c_18 => ?_) (fun c_18 => ?_)
    · have h := ifp c_18 h
      refine lv_iconst (v := 0) hx hb dX12_shelf_117 (by decide) ?_
      exact tX12_shelf_118 hI    X x1 x3 x4 0 x1 m_15 _ _ _  h hP hS (lv_sub hl [0, 1, 3, 4] rfl)
    · have h := ifn c_18 h
      refine lv_aload_n hx hb dX12_shelf_108 rfl (lv_at hl 0 rfl) ?_
      refine r_get kc_12 27 X hP (by decide) (L_ref _) (by decide) rfl wt_5_199 dX12_shelf_109 ?_
      refine lv_iload_n hx hb dX12_shelf_112 rfl (lv_at hl 3 rfl) ?_
      obtain ⟨hin_30, h⟩ := gx_some h
      refine r_iald X hP (by decide) (Lr_9 _) hin_30 rfl dX12_shelf_113 ?_
      refine lv_goto (tgt := 118) hx hb dX12_shelf_114 (by decide) ?_
      exact tX12_shelf_118 hI    X x1 x3 x4 (m_15 9 (ix x3)) x1 m_15 _ _ _  h hP hS (lv_sub hl [0, 1, 3, 4] rfl)
  · have h := ifp c_17 h
    refine lv_iload_n hx hb dX12_shelf_99 rfl (lv_at hl 3 rfl) ?_
    refine lv_goto (tgt := 118) hx hb dX12_shelf_100 (by decide) ?_
    exact tX12_shelf_118 hI    X x1 x3 x4 x3 x1 m_15 _ _ _  h hP hS (lv_sub hl [0, 1, 3, 4] rfl)

def fX12_shelf_64  (x1 : Int32) (x2 : Int32) (x3 : Int32) (s0 : Int32) (m : Mm) : Option (Int32 × Mm) := (if x2 = 0 then (fX12_shelf_89  x1 x2 x3 s0 1 x1 m) else (if s0 = 0 then (fX12_shelf_89  x1 x2 x3 s0 0 x1 m) else (fX12_shelf_89  x1 x2 x3 s0 2 x1 m)))
set_option maxHeartbeats 4000000 in
set_option maxRecDepth 100000 in
theorem tX12_shelf_64 (hI : InjA rN A)  {r : Int32} {m' : Mm} (X : CX rLay rN D cA A p s m0 args meth c "BenchTowelsModel" cX12_shelf 5 (some .int)) : ∀ (x1 : Int32) (x2 : Int32) (x3 : Int32) (s0 : Int32) (m : Mm) (H : Heap) (locs : List Loc) (ls : Array Slot), fX12_shelf_64 x1 x2 x3 s0 m = some (r, m') → va_P D vwCl (wsOf rLay rN cA A m) H → va_S (AW rN A) s.heap H locs → lv_has ls 5 [(0, .ref (A 0)), (1, .int x1), (2, .int x2), (3, .int x3)] → W p l e { frames := 2, cells := 0, slots := 0, locals := 45 } s m0 args below meth c H locs 0 0 (ZR below args s rLay rN D cA A (some (.int r)) m') (F0 m0 64 ls [.int s0]) := by
  have hx := X.1
  have hb := X.2.1
  have hml := X.2.2.1
  have hown := X.2.2.2.1
  have hts := X.2.2.2.2.1
  have hF := X.2.2.2.2.2.2.2.2.1
  intro x1 x2 x3 s0 m H locs ls h hP hS hl
  rewrite [fX12_shelf_64] at h
  refine lv_istore (lv' := [(4, .int s0), (0, .ref (A 0)), (1, .int x1), (2, .int x2), (3, .int x3)]) hx hb dX12_shelf_64 hl (by decide) rfl (fun ls hl => ?_)
  refine lv_aload_n hx hb dX12_shelf_66 rfl (lv_at hl 1 rfl) ?_
  refine r_get kc_12 30 X hP (by decide) (L_ref _) (by decide) rfl wt_5_202 dX12_shelf_67 ?_
  refine lv_iload_n hx hb dX12_shelf_70 rfl (lv_at hl 2 rfl) ?_
  refine lv_iload_n hx hb dX12_shelf_71 rfl (lv_at hl 3 rfl) ?_
  refine lv_if_ne (tgt := 79) hx hb dX12_shelf_72 (by decide) (fun c_12 => ?_) (fun c_12 => ?_)
  · have h := ifn c_12 h
    refine lv_iload hx hb dX12_shelf_79 (lv_at hl 0 rfl) ?_
    refine lv_if_eq (tgt := 88) hx hb dX12_shelf_81 (by decide) (fun c_13 => ?_) (fun c_13 => ?_)
    · have h := ifp c_13 h
      refine lv_iconst (v := 0) hx hb dX12_shelf_88 (by decide) ?_
      exact tX12_shelf_89 hI    X x1 x2 x3 s0 0 x1 m _ _ _  h hP hS (lv_sub hl [1, 2, 3, 4, 0] rfl)
    · have h := ifn c_13 h
      refine lv_iconst (v := 2) hx hb dX12_shelf_84 (by decide) ?_
      refine lv_goto (tgt := 89) hx hb dX12_shelf_85 (by decide) ?_
      exact tX12_shelf_89 hI    X x1 x2 x3 s0 2 x1 m _ _ _  h hP hS (lv_sub hl [1, 2, 3, 4, 0] rfl)
  · have h := ifp c_12 h
    refine lv_iconst (v := 1) hx hb dX12_shelf_75 (by decide) ?_
    refine lv_goto (tgt := 89) hx hb dX12_shelf_76 (by decide) ?_
    exact tX12_shelf_89 hI    X x1 x2 x3 s0 1 x1 m _ _ _  h hP hS (lv_sub hl [1, 2, 3, 4, 0] rfl)

def fX12_shelf_45  (x1 : Int32) (x2 : Int32) (x3 : Int32) (m : Mm) : Option (Int32 × Mm) := (if x2 = 1 then gx x3 4 ((if (m 9 (ix x3)) < 0 then (fX12_shelf_64  x1 x2 x3 0 m) else (fX12_shelf_64  x1 x2 x3 1 m))) else (fX12_shelf_64  x1 x2 x3 0 m))
set_option maxHeartbeats 4000000 in
set_option maxRecDepth 100000 in
theorem tX12_shelf_45 (hI : InjA rN A)  {r : Int32} {m' : Mm} (X : CX rLay rN D cA A p s m0 args meth c "BenchTowelsModel" cX12_shelf 5 (some .int)) : ∀ (x1 : Int32) (x2 : Int32) (x3 : Int32) (m : Mm) (H : Heap) (locs : List Loc) (ls : Array Slot), fX12_shelf_45 x1 x2 x3 m = some (r, m') → va_P D vwCl (wsOf rLay rN cA A m) H → va_S (AW rN A) s.heap H locs → lv_has ls 5 [(0, .ref (A 0)), (1, .int x1), (2, .int x2), (3, .int x3)] → W p l e { frames := 2, cells := 0, slots := 0, locals := 45 } s m0 args below meth c H locs 0 0 (ZR below args s rLay rN D cA A (some (.int r)) m') (F0 m0 45 ls []) := by
  have hx := X.1
  have hb := X.2.1
  have hml := X.2.2.1
  have hown := X.2.2.2.1
  have hts := X.2.2.2.2.1
  have hF := X.2.2.2.2.2.2.2.2.1
  intro x1 x2 x3 m H locs ls h hP hS hl
  rewrite [fX12_shelf_45] at h
  refine lv_iload_n hx hb dX12_shelf_45 rfl (lv_at hl 2 rfl) ?_
  refine lv_iconst (v := 1) hx hb dX12_shelf_46 (by decide) ?_
  refine lv_icmp_ne (tgt := 63) hx hb dX12_shelf_47 (by decide) (fun c_11 => ?_) (fun c_11 => ?_)
  · have h := ifn c_11 h
    refine lv_iconst (v := 0) hx hb dX12_shelf_63 (by decide) ?_
    exact tX12_shelf_64 hI    X x1 x2 x3 0 m _ _ _  h hP hS (lv_sub hl [0, 1, 2, 3] rfl)
  · have h := ifp c_11 h
    refine lv_aload_n hx hb dX12_shelf_50 rfl (lv_at hl 0 rfl) ?_
    refine r_get kc_12 27 X hP (by decide) (L_ref _) (by decide) rfl wt_5_199 dX12_shelf_51 ?_
    refine lv_iload_n hx hb dX12_shelf_54 rfl (lv_at hl 3 rfl) ?_
    obtain ⟨hin_31, h⟩ := gx_some h
    refine r_iald X hP (by decide) (Lr_9 _) hin_31 rfl dX12_shelf_55 ?_
    refine lv_if_lt (tgt := 63) hx hb dX12_shelf_56 (by decide) (fun c_32 => ?_) (fun c_32 => ?_)
    · have h := ifp c_32 h
      refine lv_iconst (v := 0) hx hb dX12_shelf_63 (by decide) ?_
      exact tX12_shelf_64 hI    X x1 x2 x3 0 m _ _ _  h hP hS (lv_sub hl [0, 1, 2, 3] rfl)
    · have h := ifn c_32 h
      refine lv_iconst (v := 1) hx hb dX12_shelf_59 (by decide) ?_
      refine lv_goto (tgt := 64) hx hb dX12_shelf_60 (by decide) ?_
      exact tX12_shelf_64 hI    X x1 x2 x3 1 m _ _ _  h hP hS (lv_sub hl [0, 1, 2, 3] rfl)

def fX12_shelf_31  (x1 : Int32) (x2 : Int32) (x3 : Int32) (m : Mm) : Option (Int32 × Mm) := (if x2 = 1 then bd (fX12_isSheet x3 m) fun r_33 m_34 => (if r_33 = 0 then some ((-1), m_34) else fX12_shelf_45  x1 x2 x3 m_34) else fX12_shelf_45  x1 x2 x3 m)
set_option maxHeartbeats 4000000 in
set_option maxRecDepth 100000 in
theorem tX12_shelf_31 (hI : InjA rN A)  {r : Int32} {m' : Mm} (X : CX rLay rN D cA A p s m0 args meth c "BenchTowelsModel" cX12_shelf 5 (some .int)) : ∀ (x1 : Int32) (x2 : Int32) (x3 : Int32) (m : Mm) (H : Heap) (locs : List Loc) (ls : Array Slot), fX12_shelf_31 x1 x2 x3 m = some (r, m') → va_P D vwCl (wsOf rLay rN cA A m) H → va_S (AW rN A) s.heap H locs → lv_has ls 5 [(0, .ref (A 0)), (1, .int x1), (2, .int x2), (3, .int x3)] → W p l e { frames := 2, cells := 0, slots := 0, locals := 45 } s m0 args below meth c H locs 0 0 (ZR below args s rLay rN D cA A (some (.int r)) m') (F0 m0 31 ls []) := by
  have hx := X.1
  have hb := X.2.1
  have hml := X.2.2.1
  have hown := X.2.2.2.1
  have hts := X.2.2.2.2.1
  have hF := X.2.2.2.2.2.2.2.2.1
  intro x1 x2 x3 m H locs ls h hP hS hl
  rewrite [fX12_shelf_31] at h
  refine lv_iload_n hx hb dX12_shelf_31 rfl (lv_at hl 2 rfl) ?_
  refine lv_iconst (v := 1) hx hb dX12_shelf_32 (by decide) ?_
  refine lv_icmp_ne (tgt := 45) hx hb dX12_shelf_33 (by decide) (fun c_10 => ?_) (fun c_10 => ?_)
  · have h := ifn c_10 h
    exact tX12_shelf_45 hI    X x1 x2 x3 m _ _ _  h hP hS (lv_sub hl [0, 1, 2, 3] rfl)
  · have h := ifp c_10 h
    refine lv_iload_n hx hb dX12_shelf_36 rfl (lv_at hl 3 rfl) ?_
    obtain ⟨r_33, m_34, hc_35, h⟩ := bd_some h
    refine c_S (rest := []) X hP hS (tX12_isSheet hI  hc_35) wt_7_200 wt_7_201 wt_1_13 wt_7_202 hy_X12_isSheet ⟨rfl, rfl⟩ ⟨Nat.le_of_ble_eq_true rfl, Nat.le_of_ble_eq_true rfl⟩ rfl hl.1 rfl (Nat.le_of_ble_eq_true rfl) dX12_shelf_37 rfl (fun H locs hP hS => ?_)
    refine lv_if_ne (tgt := 45) hx hb dX12_shelf_40 (by decide) (fun c_36 => ?_) (fun c_36 => ?_)
    · have h := ifn c_36 h
      exact tX12_shelf_45 hI    X x1 x2 x3 m_34 _ _ _  h hP hS (lv_sub hl [0, 1, 2, 3] rfl)
    · have h := ifp c_36 h
      refine lv_iconst (v := (-1)) hx hb dX12_shelf_43 (by decide) ?_
      exact r_iret X hP hS dX12_shelf_44 h

def fX12_shelf (a1 : Int32) (a2 : Int32) (a3 : Int32) (m : Mm) : Option (Int32 × Mm) := bd (fX12_isShelf a1 m) fun r_1 m_2 => (if r_1 = 0 then some ((-1), m_2) else bd (fX12_isIn (Int32.toInt64 a2) (0 : Int64) (2 : Int64) m_2) fun r_5 m_6 => (if r_5 = 0 then some ((-1), m_6) else (if a2 = 0 then bd (fX12_isOne a3 m_6) fun r_37 m_38 => (if r_37 = 0 then some ((-1), m_38) else fX12_shelf_31  a1 a2 a3 m_38) else fX12_shelf_31  a1 a2 a3 m_6)))
set_option maxHeartbeats 4000000 in
set_option maxRecDepth 100000 in
theorem tX12_shelf {l : Launch} {D : va_G} {cA : Nat → ClassId} {A : Nat → Nat} (hI : InjA rN A) {a1 : Int32} {a2 : Int32} {a3 : Int32} {m m' : Mm} {r : Int32} (h : fX12_shelf a1 a2 a3 m = some (r, m')) : Met0 l yX12_shelf cX12_shelf 5 (some .int) { frames := 2, cells := 0, slots := 0, locals := 45 } rLay rN D cA A [.ref (A 0), .int a1, .int a2, .int a3] m (some (.int r)) m' := by
  refine met0_of (by decide) (Nat.le_of_ble_eq_true rfl) hI ?_
  intro p e s m0 below meth c ls X hinit hP hS hl
  generalize ([.ref (A 0), .int a1, .int a2, .int a3] : List Value).toArray = args at X ⊢
  have hl : lv_has ls 5 [(0, .ref (A 0)), (1, .int a1), (2, .int a2), (3, .int a3)] := hl
  have X : CX rLay rN D cA A p s m0 args meth c "BenchTowelsModel" cX12_shelf 5 (some .int) := X
  have hx := X.1
  have hb := X.2.1
  have hml := X.2.2.1
  have hown := X.2.2.2.1
  have hts := X.2.2.2.2.1
  have hF := X.2.2.2.2.2.2.2.2.1
  rewrite [fX12_shelf] at h
  refine lv_iload_n hx hb dX12_shelf_0 rfl (lv_at hl 1 rfl) ?_
  obtain ⟨r_1, m_2, hc_3, h⟩ := bd_some h
  refine c_S (rest := []) X hP hS (tX12_isShelf hI  hc_3) wt_7_233 wt_7_234 wt_1_13 wt_7_235 hy_X12_isShelf ⟨rfl, rfl⟩ ⟨Nat.le_of_ble_eq_true rfl, Nat.le_of_ble_eq_true rfl⟩ rfl hl.1 rfl (Nat.le_of_ble_eq_true rfl) dX12_shelf_1 rfl (fun H locs hP hS => ?_)
  refine lv_if_eq (tgt := 43) hx hb dX12_shelf_4 (by decide) (fun c_4 => ?_) (fun c_4 => ?_)
  · have h := ifp c_4 h
    refine lv_iconst (v := (-1)) hx hb dX12_shelf_43 (by decide) ?_
    exact r_iret X hP hS dX12_shelf_44 h
  · have h := ifn c_4 h
    refine lv_iload_n hx hb dX12_shelf_7 rfl (lv_at hl 2 rfl) ?_
    refine lv_i2l hx hb dX12_shelf_8 rfl ?_
    refine lv_lconst (v := 0) hx hb dX12_shelf_9 (by decide) ?_
    refine lv_ldc2 (v := 2) hx hb hown (hts _ wt_6_62) dX12_shelf_10 ?_
    obtain ⟨r_5, m_6, hc_7, h⟩ := bd_some h
    refine c_S (rest := []) X hP hS (tX12_isIn hI  hc_7) wt_6_55 wt_6_56 wt_1_13 wt_6_57 hy_X12_isIn ⟨rfl, rfl⟩ ⟨Nat.le_of_ble_eq_true rfl, Nat.le_of_ble_eq_true rfl⟩ rfl hl.1 rfl (Nat.le_of_ble_eq_true rfl) dX12_shelf_13 rfl (fun H locs hP hS => ?_)
    refine lv_if_eq (tgt := 43) hx hb dX12_shelf_16 (by decide) (fun c_8 => ?_) (fun c_8 => ?_)
    · have h := ifp c_8 h
      refine lv_iconst (v := (-1)) hx hb dX12_shelf_43 (by decide) ?_
      exact r_iret X hP hS dX12_shelf_44 h
    · have h := ifn c_8 h
      refine lv_iload_n hx hb dX12_shelf_19 rfl (lv_at hl 2 rfl) ?_
      refine lv_if_ne (tgt := 31) hx hb dX12_shelf_20 (by decide) (fun c_9 => ?_) (fun c_9 => ?_)
      · have h := ifn c_9 h
        exact tX12_shelf_31 hI    X a1 a2 a3 m_6 _ _ _  h hP hS (lv_sub hl [0, 1, 2, 3] rfl)
      · have h := ifp c_9 h
        refine lv_aload_n hx hb dX12_shelf_23 rfl (lv_at hl 0 rfl) ?_
        refine lv_iload_n hx hb dX12_shelf_24 rfl (lv_at hl 3 rfl) ?_
        obtain ⟨r_37, m_38, hc_39, h⟩ := bd_some h
        refine c_V (rest := []) X hP hS (tX12_isOne hI  hc_39) (by decide) (L_ref _) rfl wt_6_67 wt_6_69 ws_2_8 wt_1_13 wt_6_70 ⟨rfl, hy_X12_isOne⟩ ⟨rfl, rfl⟩ ⟨Nat.le_of_ble_eq_true rfl, Nat.le_of_ble_eq_true rfl⟩ rfl hl.1 rfl (Nat.le_of_ble_eq_true rfl) dX12_shelf_25 rfl (fun H locs hP hS => ?_)
        refine lv_if_eq (tgt := 43) hx hb dX12_shelf_28 (by decide) (fun c_40 => ?_) (fun c_40 => ?_)
        · have h := ifp c_40 h
          refine lv_iconst (v := (-1)) hx hb dX12_shelf_43 (by decide) ?_
          exact r_iret X hP hS dX12_shelf_44 h
        · have h := ifn c_40 h
          exact tX12_shelf_31 hI    X a1 a2 a3 m_38 _ _ _  h hP hS (lv_sub hl [0, 1, 2, 3] rfl)

def fX12_heldOn_27  (x1 : Int32) (m : Mm) : Option (Int32 × Mm) := gx x1 4 (some ((m 12 (ix x1)), m))
set_option maxHeartbeats 4000000 in
set_option maxRecDepth 100000 in
theorem tX12_heldOn_27 (hI : InjA rN A)  {r : Int32} {m' : Mm} (X : CX rLay rN D cA A p s m0 args meth c "BenchTowelsModel" cX12_heldOn 2 (some .int)) : ∀ (x1 : Int32) (m : Mm) (H : Heap) (locs : List Loc) (ls : Array Slot), fX12_heldOn_27 x1 m = some (r, m') → va_P D vwCl (wsOf rLay rN cA A m) H → va_S (AW rN A) s.heap H locs → lv_has ls 2 [(0, .ref (A 0)), (1, .int x1)] → W p l e { frames := 1, cells := 0, slots := 0, locals := 21 } s m0 args below meth c H locs 0 0 (ZR below args s rLay rN D cA A (some (.int r)) m') (F0 m0 27 ls []) := by
  have hx := X.1
  have hb := X.2.1
  have hml := X.2.2.1
  have hown := X.2.2.2.1
  have hts := X.2.2.2.2.1
  have hF := X.2.2.2.2.2.2.2.2.1
  intro x1 m H locs ls h hP hS hl
  rewrite [fX12_heldOn_27] at h
  refine lv_aload_n hx hb dX12_heldOn_27 rfl (lv_at hl 0 rfl) ?_
  refine r_get kc_12 30 X hP (by decide) (L_ref _) (by decide) rfl wt_5_202 dX12_heldOn_28 ?_
  refine lv_iload_n hx hb dX12_heldOn_31 rfl (lv_at hl 1 rfl) ?_
  obtain ⟨hin_3, h⟩ := gx_some h
  refine r_iald X hP (by decide) (Lr_12 _) hin_3 rfl dX12_heldOn_32 ?_
  exact r_iret X hP hS dX12_heldOn_33 h

def fX12_heldOn (a1 : Int32) (m : Mm) : Option (Int32 × Mm) := gx a1 4 ((if (m 12 (ix a1)) = 1 then bd (fX12_isOne (m 13 (ix a1)) m) fun r_4 m_5 => (if r_4 = 0 then some (0, m_5) else fX12_heldOn_27  a1 m_5) else fX12_heldOn_27  a1 m))
set_option maxHeartbeats 4000000 in
set_option maxRecDepth 100000 in
theorem tX12_heldOn {l : Launch} {D : va_G} {cA : Nat → ClassId} {A : Nat → Nat} (hI : InjA rN A) {a1 : Int32} {m m' : Mm} {r : Int32} (h : fX12_heldOn a1 m = some (r, m')) : Met0 l yX12_heldOn cX12_heldOn 2 (some .int) { frames := 1, cells := 0, slots := 0, locals := 21 } rLay rN D cA A [.ref (A 0), .int a1] m (some (.int r)) m' := by
  refine met0_of (by decide) (Nat.le_of_ble_eq_true rfl) hI ?_
  intro p e s m0 below meth c ls X hinit hP hS hl
  generalize ([.ref (A 0), .int a1] : List Value).toArray = args at X ⊢
  have hl : lv_has ls 2 [(0, .ref (A 0)), (1, .int a1)] := hl
  have X : CX rLay rN D cA A p s m0 args meth c "BenchTowelsModel" cX12_heldOn 2 (some .int) := X
  have hx := X.1
  have hb := X.2.1
  have hml := X.2.2.1
  have hown := X.2.2.2.1
  have hts := X.2.2.2.2.1
  have hF := X.2.2.2.2.2.2.2.2.1
  rewrite [fX12_heldOn] at h
  refine lv_aload_n hx hb dX12_heldOn_0 rfl (lv_at hl 0 rfl) ?_
  refine r_get kc_12 30 X hP (by decide) (L_ref _) (by decide) rfl wt_5_202 dX12_heldOn_1 ?_
  refine lv_iload_n hx hb dX12_heldOn_4 rfl (lv_at hl 1 rfl) ?_
  obtain ⟨hin_1, h⟩ := gx_some h
  refine r_iald X hP (by decide) (Lr_12 _) hin_1 rfl dX12_heldOn_5 ?_
  refine lv_iconst (v := 1) hx hb dX12_heldOn_6 (by decide) ?_
  refine lv_icmp_ne (tgt := 27) hx hb dX12_heldOn_7 (by decide) (fun c_2 => ?_) (fun c_2 => ?_)
  · have h := ifn c_2 h
    exact tX12_heldOn_27 hI    X a1 m _ _ _  h hP hS (lv_sub hl [0, 1] rfl)
  · have h := ifp c_2 h
    refine lv_aload_n hx hb dX12_heldOn_10 rfl (lv_at hl 0 rfl) ?_
    refine lv_aload_n hx hb dX12_heldOn_11 rfl (lv_at hl 0 rfl) ?_
    refine r_get kc_12 31 X hP (by decide) (L_ref _) (by decide) rfl wt_5_203 dX12_heldOn_12 ?_
    refine lv_iload_n hx hb dX12_heldOn_15 rfl (lv_at hl 1 rfl) ?_
    refine r_iald X hP (by decide) (Lr_13 _) hin_1 rfl dX12_heldOn_16 ?_
    obtain ⟨r_4, m_5, hc_6, h⟩ := bd_some h
    refine c_V (rest := []) X hP hS (tX12_isOne hI  hc_6) (by decide) (L_ref _) rfl wt_6_67 wt_6_69 ws_2_8 wt_1_13 wt_6_70 ⟨rfl, hy_X12_isOne⟩ ⟨rfl, rfl⟩ ⟨Nat.le_of_ble_eq_true rfl, Nat.le_of_ble_eq_true rfl⟩ rfl hl.1 rfl (Nat.le_of_ble_eq_true rfl) dX12_heldOn_17 rfl (fun H locs hP hS => ?_)
    refine lv_if_ne (tgt := 27) hx hb dX12_heldOn_20 (by decide) (fun c_7 => ?_) (fun c_7 => ?_)
    · have h := ifn c_7 h
      exact tX12_heldOn_27 hI    X a1 m_5 _ _ _  h hP hS (lv_sub hl [0, 1] rfl)
    · have h := ifp c_7 h
      refine lv_iconst (v := 0) hx hb dX12_heldOn_23 (by decide) ?_
      refine lv_goto (tgt := 33) hx hb dX12_heldOn_24 (by decide) ?_
      exact r_iret X hP hS dX12_heldOn_33 h

def fX12_taken (a1 : Int32) (a2 : Int32) (m : Mm) : Option (Int32 × Mm) := bd (fX12_isShelf a1 m) fun r_1 m_2 => (if r_1 = 0 then some ((-1), m_2) else bd (fX12_isIn (Int32.toInt64 a2) (0 : Int64) (14 : Int64) m_2) fun r_5 m_6 => (if r_5 = 0 then some ((-1), m_6) else bd (fX12_isIn (Int32.toInt64 a2) (6 : Int64) (9 : Int64) m_6) fun r_9 m_10 => (if r_9 = 0 then bd (fX12_heldOn a1 m_10) fun r_13 m_14 => (if r_13 = 0 then some ((-11), m_14) else (if (10 : Int32) ≤ a2 then (if r_13 = 2 then gx a1 4 ((if (m_14 13 (ix a1)) = (a2 - 10) then some ((m_14 14 (ix a1)), m_14) else some ((-13), m_14))) else some ((-13), m_14)) else (if r_13 = 1 then gx a1 4 (bd (fX12_its (m_14 13 (ix a1)) (0 : Int32) m_14) fun r_23 m_24 => bd (fX12_isUnder r_23 a2 m_24) fun r_26 m_27 => (if r_26 = 0 then some ((-13), m_27) else some ((m_27 13 (ix a1)), m_27))) else some ((-13), m_14)))) else some ((-1), m_10))))
set_option maxHeartbeats 4000000 in
set_option maxRecDepth 100000 in
theorem tX12_taken {l : Launch} {D : va_G} {cA : Nat → ClassId} {A : Nat → Nat} (hI : InjA rN A) {a1 : Int32} {a2 : Int32} {m m' : Mm} {r : Int32} (h : fX12_taken a1 a2 m = some (r, m')) : Met0 l yX12_taken cX12_taken 4 (some .int) { frames := 2, cells := 0, slots := 0, locals := 45 } rLay rN D cA A [.ref (A 0), .int a1, .int a2] m (some (.int r)) m' := by
  refine met0_of (by decide) (Nat.le_of_ble_eq_true rfl) hI ?_
  intro p e s m0 below meth c ls X hinit hP hS hl
  generalize ([.ref (A 0), .int a1, .int a2] : List Value).toArray = args at X ⊢
  have hl : lv_has ls 4 [(0, .ref (A 0)), (1, .int a1), (2, .int a2)] := hl
  have X : CX rLay rN D cA A p s m0 args meth c "BenchTowelsModel" cX12_taken 4 (some .int) := X
  have hx := X.1
  have hb := X.2.1
  have hml := X.2.2.1
  have hown := X.2.2.2.1
  have hts := X.2.2.2.2.1
  have hF := X.2.2.2.2.2.2.2.2.1
  rewrite [fX12_taken] at h
  refine lv_iload_n hx hb dX12_taken_0 rfl (lv_at hl 1 rfl) ?_
  obtain ⟨r_1, m_2, hc_3, h⟩ := bd_some h
  refine c_S (rest := []) X hP hS (tX12_isShelf hI  hc_3) wt_7_233 wt_7_234 wt_1_13 wt_7_235 hy_X12_isShelf ⟨rfl, rfl⟩ ⟨Nat.le_of_ble_eq_true rfl, Nat.le_of_ble_eq_true rfl⟩ rfl hl.1 rfl (Nat.le_of_ble_eq_true rfl) dX12_taken_1 rfl (fun H locs hP hS => ?_)
  refine lv_if_eq (tgt := 33) hx hb dX12_taken_4 (by decide) (fun c_4 => ?_) (fun c_4 => ?_)
  · have h := ifp c_4 h
    refine lv_iconst (v := (-1)) hx hb dX12_taken_33 (by decide) ?_
    exact r_iret X hP hS dX12_taken_34 h
  · have h := ifn c_4 h
    refine lv_iload_n hx hb dX12_taken_7 rfl (lv_at hl 2 rfl) ?_
    refine lv_i2l hx hb dX12_taken_8 rfl ?_
    refine lv_lconst (v := 0) hx hb dX12_taken_9 (by decide) ?_
    refine lv_ldc2 (v := 14) hx hb hown (hts _ wt_8_0) dX12_taken_10 ?_
    obtain ⟨r_5, m_6, hc_7, h⟩ := bd_some h
    refine c_S (rest := []) X hP hS (tX12_isIn hI  hc_7) wt_6_55 wt_6_56 wt_1_13 wt_6_57 hy_X12_isIn ⟨rfl, rfl⟩ ⟨Nat.le_of_ble_eq_true rfl, Nat.le_of_ble_eq_true rfl⟩ rfl hl.1 rfl (Nat.le_of_ble_eq_true rfl) dX12_taken_13 rfl (fun H locs hP hS => ?_)
    refine lv_if_eq (tgt := 33) hx hb dX12_taken_16 (by decide) (fun c_8 => ?_) (fun c_8 => ?_)
    · have h := ifp c_8 h
      refine lv_iconst (v := (-1)) hx hb dX12_taken_33 (by decide) ?_
      exact r_iret X hP hS dX12_taken_34 h
    · have h := ifn c_8 h
      refine lv_iload_n hx hb dX12_taken_19 rfl (lv_at hl 2 rfl) ?_
      refine lv_i2l hx hb dX12_taken_20 rfl ?_
      refine lv_ldc2 (v := 6) hx hb hown (hts _ wt_8_1) dX12_taken_21 ?_
      refine lv_ldc2 (v := 9) hx hb hown (hts _ wt_6_61) dX12_taken_24 ?_
      obtain ⟨r_9, m_10, hc_11, h⟩ := bd_some h
      refine c_S (rest := []) X hP hS (tX12_isIn hI  hc_11) wt_6_55 wt_6_56 wt_1_13 wt_6_57 hy_X12_isIn ⟨rfl, rfl⟩ ⟨Nat.le_of_ble_eq_true rfl, Nat.le_of_ble_eq_true rfl⟩ rfl hl.1 rfl (Nat.le_of_ble_eq_true rfl) dX12_taken_27 rfl (fun H locs hP hS => ?_)
      refine lv_if_eq (tgt := 35) hx hb dX12_taken_30 (by decide) (fun c_12 => ?_) (fun c_12 => ?_)
      · have h := ifp c_12 h
        refine lv_aload_n hx hb dX12_taken_35 rfl (lv_at hl 0 rfl) ?_
        refine lv_iload_n hx hb dX12_taken_36 rfl (lv_at hl 1 rfl) ?_
        obtain ⟨r_13, m_14, hc_15, h⟩ := bd_some h
        refine c_V (rest := []) X hP hS (tX12_heldOn hI  hc_15) (by decide) (L_ref _) rfl wt_8_2 wt_8_4 ws_5_10 wt_1_13 wt_8_5 ⟨rfl, hy_X12_heldOn⟩ ⟨rfl, rfl⟩ ⟨Nat.le_of_ble_eq_true rfl, Nat.le_of_ble_eq_true rfl⟩ rfl hl.1 rfl (Nat.le_of_ble_eq_true rfl) dX12_taken_37 rfl (fun H locs hP hS => ?_)
        refine lv_istore_n (lv' := [(3, .int r_13), (0, .ref (A 0)), (1, .int a1), (2, .int a2)]) hx hb dX12_taken_40 rfl hl (by decide) rfl (fun ls hl => ?_)
        refine lv_iload_n hx hb dX12_taken_41 rfl (lv_at hl 0 rfl) ?_
        refine lv_if_ne (tgt := 48) hx hb dX12_taken_42 (by decide) (fun c_16 => ?_) (fun c_16 => ?_)
        · have h := ifn c_16 h
          refine lv_iload_n hx hb dX12_taken_48 rfl (lv_at hl 3 rfl) ?_
          refine lv_bipush (v := 10) hx hb dX12_taken_49 (by decide) ?_
          refine lv_icmp_ge (tgt := 89) hx hb dX12_taken_51 (by decide) (fun c_17 => ?_) (fun c_17 => ?_)
          · have h := ifp c_17 h
            refine lv_iload_n hx hb dX12_taken_89 rfl (lv_at hl 0 rfl) ?_
            refine lv_iconst (v := 2) hx hb dX12_taken_90 (by decide) ?_
            refine lv_icmp_ne (tgt := 116) hx hb dX12_taken_91 (by decide) (fun c_18 => ?_) (fun c_18 => ?_)
            · have h := ifn c_18 h
              refine lv_bipush (v := (-13)) hx hb dX12_taken_116 (by decide) ?_
              exact r_iret X hP hS dX12_taken_118 h
            · have h := ifp c_18 h
              refine lv_aload_n hx hb dX12_taken_94 rfl (lv_at hl 1 rfl) ?_
              refine r_get kc_12 31 X hP (by decide) (L_ref _) (by decide) rfl wt_5_203 dX12_taken_95 ?_
              refine lv_iload_n hx hb dX12_taken_98 rfl (lv_at hl 2 rfl) ?_
              obtain ⟨hin_19, h⟩ := gx_some h
              refine r_iald X hP (by decide) (Lr_13 _) hin_19 rfl dX12_taken_99 ?_
              refine lv_iload_n hx hb dX12_taken_100 rfl (lv_at hl 3 rfl) ?_
              refine lv_bipush (v := 10) hx hb dX12_taken_101 (by decide) ?_
              refine lv_isub hx hb dX12_taken_103 ?_
              refine lv_icmp_ne (tgt := 116) hx hb dX12_taken_104 (by decide) (fun c_20 => ?_) (fun c_20 => ?_)
              · have h := ifn c_20 h
                refine lv_bipush (v := (-13)) hx hb dX12_taken_116 (by decide) ?_
                exact r_iret X hP hS dX12_taken_118 h
              · have h := ifp c_20 h
                refine lv_aload_n hx hb dX12_taken_107 rfl (lv_at hl 1 rfl) ?_
                refine r_get kc_12 32 X hP (by decide) (L_ref _) (by decide) rfl wt_5_204 dX12_taken_108 ?_
                refine lv_iload_n hx hb dX12_taken_111 rfl (lv_at hl 2 rfl) ?_
                refine r_iald X hP (by decide) (Lr_14 _) hin_19 rfl dX12_taken_112 ?_
                refine lv_goto (tgt := 118) hx hb dX12_taken_113 (by decide) ?_
                exact r_iret X hP hS dX12_taken_118 h
          · have h := ifn c_17 h
            refine lv_iload_n hx hb dX12_taken_54 rfl (lv_at hl 0 rfl) ?_
            refine lv_iconst (v := 1) hx hb dX12_taken_55 (by decide) ?_
            refine lv_icmp_ne (tgt := 86) hx hb dX12_taken_56 (by decide) (fun c_21 => ?_) (fun c_21 => ?_)
            · have h := ifn c_21 h
              refine lv_bipush (v := (-13)) hx hb dX12_taken_86 (by decide) ?_
              exact r_iret X hP hS dX12_taken_88 h
            · have h := ifp c_21 h
              refine lv_aload_n hx hb dX12_taken_59 rfl (lv_at hl 1 rfl) ?_
              refine lv_aload_n hx hb dX12_taken_60 rfl (lv_at hl 1 rfl) ?_
              refine r_get kc_12 31 X hP (by decide) (L_ref _) (by decide) rfl wt_5_203 dX12_taken_61 ?_
              refine lv_iload_n hx hb dX12_taken_64 rfl (lv_at hl 2 rfl) ?_
              obtain ⟨hin_22, h⟩ := gx_some h
              refine r_iald X hP (by decide) (Lr_13 _) hin_22 rfl dX12_taken_65 ?_
              refine lv_iconst (v := 0) hx hb dX12_taken_66 (by decide) ?_
              obtain ⟨r_23, m_24, hc_25, h⟩ := bd_some h
              refine c_V (rest := []) X hP hS (tX12_its hI  hc_25) (by decide) (L_ref _) rfl wt_6_76 wt_6_78 ws_2_10 wt_1_13 wt_6_79 ⟨rfl, hy_X12_its⟩ ⟨rfl, rfl⟩ ⟨Nat.le_of_ble_eq_true rfl, Nat.le_of_ble_eq_true rfl⟩ rfl hl.1 rfl (Nat.le_of_ble_eq_true rfl) dX12_taken_67 rfl (fun H locs hP hS => ?_)
              refine lv_iload_n hx hb dX12_taken_70 rfl (lv_at hl 3 rfl) ?_
              obtain ⟨r_26, m_27, hc_28, h⟩ := bd_some h
              refine c_S (rest := []) X hP hS (tX12_isUnder hI  hc_28) wt_6_96 wt_6_97 wt_1_13 wt_6_98 hy_X12_isUnder ⟨rfl, rfl⟩ ⟨Nat.le_of_ble_eq_true rfl, Nat.le_of_ble_eq_true rfl⟩ rfl hl.1 rfl (Nat.le_of_ble_eq_true rfl) dX12_taken_71 rfl (fun H locs hP hS => ?_)
              refine lv_if_eq (tgt := 86) hx hb dX12_taken_74 (by decide) (fun c_29 => ?_) (fun c_29 => ?_)
              · have h := ifp c_29 h
                refine lv_bipush (v := (-13)) hx hb dX12_taken_86 (by decide) ?_
                exact r_iret X hP hS dX12_taken_88 h
              · have h := ifn c_29 h
                refine lv_aload_n hx hb dX12_taken_77 rfl (lv_at hl 1 rfl) ?_
                refine r_get kc_12 31 X hP (by decide) (L_ref _) (by decide) rfl wt_5_203 dX12_taken_78 ?_
                refine lv_iload_n hx hb dX12_taken_81 rfl (lv_at hl 2 rfl) ?_
                refine r_iald X hP (by decide) (Lr_13 _) hin_22 rfl dX12_taken_82 ?_
                refine lv_goto (tgt := 88) hx hb dX12_taken_83 (by decide) ?_
                exact r_iret X hP hS dX12_taken_88 h
        · have h := ifp c_16 h
          refine lv_bipush (v := (-11)) hx hb dX12_taken_45 (by decide) ?_
          exact r_iret X hP hS dX12_taken_47 h
      · have h := ifn c_12 h
        refine lv_iconst (v := (-1)) hx hb dX12_taken_33 (by decide) ?_
        exact r_iret X hP hS dX12_taken_34 h

def fX12_runs (a1 : Int32) (m : Mm) : Option (Int32 × Mm) := (if (30 : Int32) ≤ (m 0 34) then some (0, m) else gx (m 0 34) 30 (lt (up m 15 (ix (m 0 34)) a1) fun m_3 => lt (up m_3 0 34 ((m_3 0 34) + 1)) fun m_5 => some (0, m_5)))
set_option maxHeartbeats 4000000 in
set_option maxRecDepth 100000 in
theorem tX12_runs {l : Launch} {D : va_G} {cA : Nat → ClassId} {A : Nat → Nat} (hI : InjA rN A) {a1 : Int32} {m m' : Mm} {r : Int32} (h : fX12_runs a1 m = some (r, m')) : Met0 l yX12_runs cX12_runs 2 none { frames := 0, cells := 0, slots := 0, locals := 0 } rLay rN D cA A [.ref (A 0), .int a1] m none m' := by
  refine met0_of (by decide) (Nat.le_of_ble_eq_true rfl) hI ?_
  intro p e s m0 below meth c ls X hinit hP hS hl
  generalize ([.ref (A 0), .int a1] : List Value).toArray = args at X ⊢
  have hl : lv_has ls 2 [(0, .ref (A 0)), (1, .int a1)] := hl
  have X : CX rLay rN D cA A p s m0 args meth c "BenchTowelsModel" cX12_runs 2 none := X
  have hx := X.1
  have hb := X.2.1
  have hml := X.2.2.1
  have hown := X.2.2.2.1
  have hts := X.2.2.2.2.1
  have hF := X.2.2.2.2.2.2.2.2.1
  rewrite [fX12_runs] at h
  refine lv_aload_n hx hb dX12_runs_0 rfl (lv_at hl 0 rfl) ?_
  refine r_get kc_12 34 X hP (by decide) (L_ref _) (by decide) rfl wt_5_206 dX12_runs_1 ?_
  refine lv_bipush (v := 30) hx hb dX12_runs_4 (by decide) ?_
  refine lv_icmp_ge (tgt := 29) hx hb dX12_runs_6 (by decide) (fun c_1 => ?_) (fun c_1 => ?_)
  · have h := ifp c_1 h
    exact r_vret X hP hS dX12_runs_29 h
  · have h := ifn c_1 h
    refine lv_aload_n hx hb dX12_runs_9 rfl (lv_at hl 0 rfl) ?_
    refine r_get kc_12 33 X hP (by decide) (L_ref _) (by decide) rfl wt_5_205 dX12_runs_10 ?_
    refine lv_aload_n hx hb dX12_runs_13 rfl (lv_at hl 0 rfl) ?_
    refine r_get kc_12 34 X hP (by decide) (L_ref _) (by decide) rfl wt_5_206 dX12_runs_14 ?_
    refine lv_iload_n hx hb dX12_runs_17 rfl (lv_at hl 1 rfl) ?_
    obtain ⟨hin_2, h⟩ := gx_some h
    obtain ⟨m_3, em_4, h⟩ := lt_some h
    refine r_iast X hP hS (by decide) Lr_15 hin_2 rfl dX12_runs_18 em_4 (fun H locs hP hS => ?_)
    refine lv_aload_n hx hb dX12_runs_19 rfl (lv_at hl 0 rfl) ?_
    refine lv_dup hx hb dX12_runs_20 rfl ?_
    refine r_get kc_12 34 X hP (by decide) (L_ref _) (by decide) rfl wt_5_206 dX12_runs_21 ?_
    refine lv_iconst (v := 1) hx hb dX12_runs_24 (by decide) ?_
    refine lv_iadd hx hb dX12_runs_25 ?_
    obtain ⟨m_5, em_6, h⟩ := lt_some h
    refine r_put kc_12 34 X hP hS (by decide) (L_ref _) (L_ref _) (by decide) wt_5_206 rfl (by decide +kernel) (Nat.le_of_ble_eq_true rfl) dX12_runs_26 em_6 (fun H locs hP hS => ?_)
    exact r_vret X hP hS dX12_runs_29 h

def fX12_liftsPlain (a1 : Int32) (m : Mm) : Option (Int32 × Mm) := bd (fX12_runs (10 : Int32) m) fun r_1 m_2 => some ((a1 + ((m_2 0 37) * 2)), m_2)
set_option maxHeartbeats 4000000 in
set_option maxRecDepth 100000 in
theorem tX12_liftsPlain {l : Launch} {D : va_G} {cA : Nat → ClassId} {A : Nat → Nat} (hI : InjA rN A) {a1 : Int32} {m m' : Mm} {r : Int32} (h : fX12_liftsPlain a1 m = some (r, m')) : Met0 l yX12_liftsPlain cX12_liftsPlain 2 (some .int) { frames := 1, cells := 0, slots := 0, locals := 21 } rLay rN D cA A [.ref (A 0), .int a1] m (some (.int r)) m' := by
  refine met0_of (by decide) (Nat.le_of_ble_eq_true rfl) hI ?_
  intro p e s m0 below meth c ls X hinit hP hS hl
  generalize ([.ref (A 0), .int a1] : List Value).toArray = args at X ⊢
  have hl : lv_has ls 2 [(0, .ref (A 0)), (1, .int a1)] := hl
  have X : CX rLay rN D cA A p s m0 args meth c "BenchTowelsModel" cX12_liftsPlain 2 (some .int) := X
  have hx := X.1
  have hb := X.2.1
  have hml := X.2.2.1
  have hown := X.2.2.2.1
  have hts := X.2.2.2.2.1
  have hF := X.2.2.2.2.2.2.2.2.1
  rewrite [fX12_liftsPlain] at h
  refine lv_aload_n hx hb dX12_liftsPlain_0 rfl (lv_at hl 0 rfl) ?_
  refine lv_bipush (v := 10) hx hb dX12_liftsPlain_1 (by decide) ?_
  obtain ⟨r_1, m_2, hc_3, h⟩ := bd_some h
  refine c_V (rest := []) X hP hS (tX12_runs hI  hc_3) (by decide) (L_ref _) rfl wt_8_14 wt_8_16 ws_5_12 wt_1_13 wt_8_17 ⟨rfl, hy_X12_runs⟩ ⟨rfl, rfl⟩ ⟨Nat.le_of_ble_eq_true rfl, Nat.le_of_ble_eq_true rfl⟩ rfl hl.1 rfl (Nat.le_of_ble_eq_true rfl) dX12_liftsPlain_3 rfl (fun H locs hP hS => ?_)
  refine lv_iload_n hx hb dX12_liftsPlain_6 rfl (lv_at hl 1 rfl) ?_
  refine lv_aload_n hx hb dX12_liftsPlain_7 rfl (lv_at hl 0 rfl) ?_
  refine r_get kc_12 37 X hP (by decide) (L_ref _) (by decide) rfl wt_5_209 dX12_liftsPlain_8 ?_
  refine lv_iconst (v := 2) hx hb dX12_liftsPlain_11 (by decide) ?_
  refine lv_imul hx hb dX12_liftsPlain_12 ?_
  refine lv_iadd hx hb dX12_liftsPlain_13 ?_
  exact r_iret X hP hS dX12_liftsPlain_14 h

def fX12_lifts (a1 : Int32) (m : Mm) : Option (Int32 × Mm) := (if (m 0 35) = 1 then bd (fX12_runs (20 : Int32) m) fun r_12 m_13 => bd (fX12_liftsPlain a1 m_13) fun r_15 m_16 => some (((0 : Int32) - r_15), m_16) else (if (m 0 35) = 3 then bd (fX12_runs (50 : Int32) m) fun r_6 m_7 => bd (fX12_liftsPlain a1 m_7) fun r_9 m_10 => some ((r_9 + (m_10 0 36)), m_10) else bd (fX12_liftsPlain a1 m) fun r_3 m_4 => some (r_3, m_4)))
set_option maxHeartbeats 4000000 in
set_option maxRecDepth 100000 in
theorem tX12_lifts {l : Launch} {D : va_G} {cA : Nat → ClassId} {A : Nat → Nat} (hI : InjA rN A) {a1 : Int32} {m m' : Mm} {r : Int32} (h : fX12_lifts a1 m = some (r, m')) : Met0 l yX12_lifts cX12_lifts 2 (some .int) { frames := 2, cells := 0, slots := 0, locals := 42 } rLay rN D cA A [.ref (A 0), .int a1] m (some (.int r)) m' := by
  refine met0_of (by decide) (Nat.le_of_ble_eq_true rfl) hI ?_
  intro p e s m0 below meth c ls X hinit hP hS hl
  generalize ([.ref (A 0), .int a1] : List Value).toArray = args at X ⊢
  have hl : lv_has ls 2 [(0, .ref (A 0)), (1, .int a1)] := hl
  have X : CX rLay rN D cA A p s m0 args meth c "BenchTowelsModel" cX12_lifts 2 (some .int) := X
  have hx := X.1
  have hb := X.2.1
  have hml := X.2.2.1
  have hown := X.2.2.2.1
  have hts := X.2.2.2.2.1
  have hF := X.2.2.2.2.2.2.2.2.1
  rewrite [fX12_lifts] at h
  refine lv_aload_n hx hb dX12_lifts_0 rfl (lv_at hl 0 rfl) ?_
  refine r_get kc_12 35 X hP (by decide) (L_ref _) (by decide) rfl wt_5_207 dX12_lifts_1 ?_
  refine lv_iconst (v := 1) hx hb dX12_lifts_4 (by decide) ?_
  refine lv_icmp_ne (tgt := 22) hx hb dX12_lifts_5 (by decide) (fun c_1 => ?_) (fun c_1 => ?_)
  · have h := ifn c_1 h
    refine lv_aload_n hx hb dX12_lifts_22 rfl (lv_at hl 0 rfl) ?_
    refine r_get kc_12 35 X hP (by decide) (L_ref _) (by decide) rfl wt_5_207 dX12_lifts_23 ?_
    refine lv_iconst (v := 3) hx hb dX12_lifts_26 (by decide) ?_
    refine lv_icmp_ne (tgt := 47) hx hb dX12_lifts_27 (by decide) (fun c_2 => ?_) (fun c_2 => ?_)
    · have h := ifn c_2 h
      refine lv_aload_n hx hb dX12_lifts_47 rfl (lv_at hl 0 rfl) ?_
      refine lv_iload_n hx hb dX12_lifts_48 rfl (lv_at hl 1 rfl) ?_
      obtain ⟨r_3, m_4, hc_5, h⟩ := bd_some h
      refine c_V (rest := []) X hP hS (tX12_liftsPlain hI  hc_5) (by decide) (L_ref _) rfl wt_8_18 wt_8_20 ws_5_13 wt_1_13 wt_8_21 ⟨rfl, hy_X12_liftsPlain⟩ ⟨rfl, rfl⟩ ⟨Nat.le_of_ble_eq_true rfl, Nat.le_of_ble_eq_true rfl⟩ rfl hl.1 rfl (Nat.le_of_ble_eq_true rfl) dX12_lifts_49 rfl (fun H locs hP hS => ?_)
      exact r_iret X hP hS dX12_lifts_52 h
    · have h := ifp c_2 h
      refine lv_aload_n hx hb dX12_lifts_30 rfl (lv_at hl 0 rfl) ?_
      refine lv_bipush (v := 50) hx hb dX12_lifts_31 (by decide) ?_
      obtain ⟨r_6, m_7, hc_8, h⟩ := bd_some h
      refine c_V (rest := []) X hP hS (tX12_runs hI  hc_8) (by decide) (L_ref _) rfl wt_8_14 wt_8_16 ws_5_12 wt_1_13 wt_8_17 ⟨rfl, hy_X12_runs⟩ ⟨rfl, rfl⟩ ⟨Nat.le_of_ble_eq_true rfl, Nat.le_of_ble_eq_true rfl⟩ rfl hl.1 rfl (Nat.le_of_ble_eq_true rfl) dX12_lifts_33 rfl (fun H locs hP hS => ?_)
      refine lv_aload_n hx hb dX12_lifts_36 rfl (lv_at hl 0 rfl) ?_
      refine lv_iload_n hx hb dX12_lifts_37 rfl (lv_at hl 1 rfl) ?_
      obtain ⟨r_9, m_10, hc_11, h⟩ := bd_some h
      refine c_V (rest := []) X hP hS (tX12_liftsPlain hI  hc_11) (by decide) (L_ref _) rfl wt_8_18 wt_8_20 ws_5_13 wt_1_13 wt_8_21 ⟨rfl, hy_X12_liftsPlain⟩ ⟨rfl, rfl⟩ ⟨Nat.le_of_ble_eq_true rfl, Nat.le_of_ble_eq_true rfl⟩ rfl hl.1 rfl (Nat.le_of_ble_eq_true rfl) dX12_lifts_38 rfl (fun H locs hP hS => ?_)
      refine lv_aload_n hx hb dX12_lifts_41 rfl (lv_at hl 0 rfl) ?_
      refine r_get kc_12 36 X hP (by decide) (L_ref _) (by decide) rfl wt_5_208 dX12_lifts_42 ?_
      refine lv_iadd hx hb dX12_lifts_45 ?_
      exact r_iret X hP hS dX12_lifts_46 h
  · have h := ifp c_1 h
    refine lv_aload_n hx hb dX12_lifts_8 rfl (lv_at hl 0 rfl) ?_
    refine lv_bipush (v := 20) hx hb dX12_lifts_9 (by decide) ?_
    obtain ⟨r_12, m_13, hc_14, h⟩ := bd_some h
    refine c_V (rest := []) X hP hS (tX12_runs hI  hc_14) (by decide) (L_ref _) rfl wt_8_14 wt_8_16 ws_5_12 wt_1_13 wt_8_17 ⟨rfl, hy_X12_runs⟩ ⟨rfl, rfl⟩ ⟨Nat.le_of_ble_eq_true rfl, Nat.le_of_ble_eq_true rfl⟩ rfl hl.1 rfl (Nat.le_of_ble_eq_true rfl) dX12_lifts_11 rfl (fun H locs hP hS => ?_)
    refine lv_iconst (v := 0) hx hb dX12_lifts_14 (by decide) ?_
    refine lv_aload_n hx hb dX12_lifts_15 rfl (lv_at hl 0 rfl) ?_
    refine lv_iload_n hx hb dX12_lifts_16 rfl (lv_at hl 1 rfl) ?_
    obtain ⟨r_15, m_16, hc_17, h⟩ := bd_some h
    refine c_V (rest := [.int 0]) X hP hS (tX12_liftsPlain hI  hc_17) (by decide) (L_ref _) rfl wt_8_18 wt_8_20 ws_5_13 wt_1_13 wt_8_21 ⟨rfl, hy_X12_liftsPlain⟩ ⟨rfl, rfl⟩ ⟨Nat.le_of_ble_eq_true rfl, Nat.le_of_ble_eq_true rfl⟩ rfl hl.1 rfl (Nat.le_of_ble_eq_true rfl) dX12_lifts_17 rfl (fun H locs hP hS => ?_)
    refine lv_isub hx hb dX12_lifts_20 ?_
    exact r_iret X hP hS dX12_lifts_21 h

def fX12_groansPlain (a1 : Int32) (m : Mm) : Option (Int32 × Mm) := bd (fX12_runs (11 : Int32) m) fun r_1 m_2 => bd (fX12_lifts a1 m_2) fun r_4 m_5 => some ((r_4 ^^^ (m_5 0 36)), m_5)
set_option maxHeartbeats 4000000 in
set_option maxRecDepth 100000 in
theorem tX12_groansPlain {l : Launch} {D : va_G} {cA : Nat → ClassId} {A : Nat → Nat} (hI : InjA rN A) {a1 : Int32} {m m' : Mm} {r : Int32} (h : fX12_groansPlain a1 m = some (r, m')) : Met0 l yX12_groansPlain cX12_groansPlain 2 (some .int) { frames := 3, cells := 0, slots := 0, locals := 63 } rLay rN D cA A [.ref (A 0), .int a1] m (some (.int r)) m' := by
  refine met0_of (by decide) (Nat.le_of_ble_eq_true rfl) hI ?_
  intro p e s m0 below meth c ls X hinit hP hS hl
  generalize ([.ref (A 0), .int a1] : List Value).toArray = args at X ⊢
  have hl : lv_has ls 2 [(0, .ref (A 0)), (1, .int a1)] := hl
  have X : CX rLay rN D cA A p s m0 args meth c "BenchTowelsModel" cX12_groansPlain 2 (some .int) := X
  have hx := X.1
  have hb := X.2.1
  have hml := X.2.2.1
  have hown := X.2.2.2.1
  have hts := X.2.2.2.2.1
  have hF := X.2.2.2.2.2.2.2.2.1
  rewrite [fX12_groansPlain] at h
  refine lv_aload_n hx hb dX12_groansPlain_0 rfl (lv_at hl 0 rfl) ?_
  refine lv_bipush (v := 11) hx hb dX12_groansPlain_1 (by decide) ?_
  obtain ⟨r_1, m_2, hc_3, h⟩ := bd_some h
  refine c_V (rest := []) X hP hS (tX12_runs hI  hc_3) (by decide) (L_ref _) rfl wt_8_14 wt_8_16 ws_5_12 wt_1_13 wt_8_17 ⟨rfl, hy_X12_runs⟩ ⟨rfl, rfl⟩ ⟨Nat.le_of_ble_eq_true rfl, Nat.le_of_ble_eq_true rfl⟩ rfl hl.1 rfl (Nat.le_of_ble_eq_true rfl) dX12_groansPlain_3 rfl (fun H locs hP hS => ?_)
  refine lv_aload_n hx hb dX12_groansPlain_6 rfl (lv_at hl 0 rfl) ?_
  refine lv_iload_n hx hb dX12_groansPlain_7 rfl (lv_at hl 1 rfl) ?_
  obtain ⟨r_4, m_5, hc_6, h⟩ := bd_some h
  refine c_V (rest := []) X hP hS (tX12_lifts hI  hc_6) (by decide) (L_ref _) rfl wt_8_10 wt_8_12 ws_5_11 wt_1_13 wt_8_13 ⟨rfl, hy_X12_lifts⟩ ⟨rfl, rfl⟩ ⟨Nat.le_of_ble_eq_true rfl, Nat.le_of_ble_eq_true rfl⟩ rfl hl.1 rfl (Nat.le_of_ble_eq_true rfl) dX12_groansPlain_8 rfl (fun H locs hP hS => ?_)
  refine lv_aload_n hx hb dX12_groansPlain_11 rfl (lv_at hl 0 rfl) ?_
  refine r_get kc_12 36 X hP (by decide) (L_ref _) (by decide) rfl wt_5_208 dX12_groansPlain_12 ?_
  refine lv_ixor hx hb dX12_groansPlain_15 ?_
  exact r_iret X hP hS dX12_groansPlain_16 h

def fX12_groans_16  (x1 : Int32) (m : Mm) : Option (Int32 × Mm) := bd (fX12_runs (30 : Int32) m) fun r_2 m_3 => bd (fX12_groansPlain x1 m_3) fun r_5 m_6 => some ((r_5 * 3), m_6)
set_option maxHeartbeats 4000000 in
set_option maxRecDepth 100000 in
theorem tX12_groans_16 (hI : InjA rN A)  {r : Int32} {m' : Mm} (X : CX rLay rN D cA A p s m0 args meth c "BenchTowelsModel" cX12_groans 2 (some .int)) : ∀ (x1 : Int32) (m : Mm) (H : Heap) (locs : List Loc) (ls : Array Slot), fX12_groans_16 x1 m = some (r, m') → va_P D vwCl (wsOf rLay rN cA A m) H → va_S (AW rN A) s.heap H locs → lv_has ls 2 [(0, .ref (A 0)), (1, .int x1)] → W p l e { frames := 4, cells := 0, slots := 0, locals := 84 } s m0 args below meth c H locs 0 0 (ZR below args s rLay rN D cA A (some (.int r)) m') (F0 m0 16 ls []) := by
  have hx := X.1
  have hb := X.2.1
  have hml := X.2.2.1
  have hown := X.2.2.2.1
  have hts := X.2.2.2.2.1
  have hF := X.2.2.2.2.2.2.2.2.1
  intro x1 m H locs ls h hP hS hl
  rewrite [fX12_groans_16] at h
  refine lv_aload_n hx hb dX12_groans_16 rfl (lv_at hl 0 rfl) ?_
  refine lv_bipush (v := 30) hx hb dX12_groans_17 (by decide) ?_
  obtain ⟨r_2, m_3, hc_4, h⟩ := bd_some h
  refine c_V (rest := []) X hP hS (tX12_runs hI  hc_4) (by decide) (L_ref _) rfl wt_8_14 wt_8_16 ws_5_12 wt_1_13 wt_8_17 ⟨rfl, hy_X12_runs⟩ ⟨rfl, rfl⟩ ⟨Nat.le_of_ble_eq_true rfl, Nat.le_of_ble_eq_true rfl⟩ rfl hl.1 rfl (Nat.le_of_ble_eq_true rfl) dX12_groans_19 rfl (fun H locs hP hS => ?_)
  refine lv_aload_n hx hb dX12_groans_22 rfl (lv_at hl 0 rfl) ?_
  refine lv_iload_n hx hb dX12_groans_23 rfl (lv_at hl 1 rfl) ?_
  obtain ⟨r_5, m_6, hc_7, h⟩ := bd_some h
  refine c_V (rest := []) X hP hS (tX12_groansPlain hI  hc_7) (by decide) (L_ref _) rfl wt_8_26 wt_8_28 ws_5_15 wt_1_13 wt_8_29 ⟨rfl, hy_X12_groansPlain⟩ ⟨rfl, rfl⟩ ⟨Nat.le_of_ble_eq_true rfl, Nat.le_of_ble_eq_true rfl⟩ rfl hl.1 rfl (Nat.le_of_ble_eq_true rfl) dX12_groans_24 rfl (fun H locs hP hS => ?_)
  refine lv_iconst (v := 3) hx hb dX12_groans_27 (by decide) ?_
  refine lv_imul hx hb dX12_groans_28 ?_
  exact r_iret X hP hS dX12_groans_29 h

def fX12_groans (a1 : Int32) (m : Mm) : Option (Int32 × Mm) := (if (m 0 35) = 2 then fX12_groans_16  a1 m else (if (m 0 35) = 3 then fX12_groans_16  a1 m else (if (m 0 35) = 5 then bd (fX12_runs (60 : Int32) m) fun r_13 m_14 => bd (fX12_groansPlain (a1 + 4) m_14) fun r_16 m_17 => some (r_16, m_17) else bd (fX12_groansPlain a1 m) fun r_10 m_11 => some (r_10, m_11))))
set_option maxHeartbeats 4000000 in
set_option maxRecDepth 100000 in
theorem tX12_groans {l : Launch} {D : va_G} {cA : Nat → ClassId} {A : Nat → Nat} (hI : InjA rN A) {a1 : Int32} {m m' : Mm} {r : Int32} (h : fX12_groans a1 m = some (r, m')) : Met0 l yX12_groans cX12_groans 2 (some .int) { frames := 4, cells := 0, slots := 0, locals := 84 } rLay rN D cA A [.ref (A 0), .int a1] m (some (.int r)) m' := by
  refine met0_of (by decide) (Nat.le_of_ble_eq_true rfl) hI ?_
  intro p e s m0 below meth c ls X hinit hP hS hl
  generalize ([.ref (A 0), .int a1] : List Value).toArray = args at X ⊢
  have hl : lv_has ls 2 [(0, .ref (A 0)), (1, .int a1)] := hl
  have X : CX rLay rN D cA A p s m0 args meth c "BenchTowelsModel" cX12_groans 2 (some .int) := X
  have hx := X.1
  have hb := X.2.1
  have hml := X.2.2.1
  have hown := X.2.2.2.1
  have hts := X.2.2.2.2.1
  have hF := X.2.2.2.2.2.2.2.2.1
  rewrite [fX12_groans] at h
  refine lv_aload_n hx hb dX12_groans_0 rfl (lv_at hl 0 rfl) ?_
  refine r_get kc_12 35 X hP (by decide) (L_ref _) (by decide) rfl wt_5_207 dX12_groans_1 ?_
  refine lv_iconst (v := 2) hx hb dX12_groans_4 (by decide) ?_
  refine lv_icmp_eq (tgt := 16) hx hb dX12_groans_5 (by decide) (fun c_1 => ?_) (fun c_1 => ?_)
  · have h := ifp c_1 h
    exact tX12_groans_16 hI    X a1 m _ _ _  h hP hS (lv_sub hl [0, 1] rfl)
  · have h := ifn c_1 h
    refine lv_aload_n hx hb dX12_groans_8 rfl (lv_at hl 0 rfl) ?_
    refine r_get kc_12 35 X hP (by decide) (L_ref _) (by decide) rfl wt_5_207 dX12_groans_9 ?_
    refine lv_iconst (v := 3) hx hb dX12_groans_12 (by decide) ?_
    refine lv_icmp_ne (tgt := 30) hx hb dX12_groans_13 (by decide) (fun c_8 => ?_) (fun c_8 => ?_)
    · have h := ifn c_8 h
      refine lv_aload_n hx hb dX12_groans_30 rfl (lv_at hl 0 rfl) ?_
      refine r_get kc_12 35 X hP (by decide) (L_ref _) (by decide) rfl wt_5_207 dX12_groans_31 ?_
      refine lv_iconst (v := 5) hx hb dX12_groans_34 (by decide) ?_
      refine lv_icmp_ne (tgt := 52) hx hb dX12_groans_35 (by decide) (fun c_9 => ?_) (fun c_9 => ?_)
      · have h := ifn c_9 h
        refine lv_aload_n hx hb dX12_groans_52 rfl (lv_at hl 0 rfl) ?_
        refine lv_iload_n hx hb dX12_groans_53 rfl (lv_at hl 1 rfl) ?_
        obtain ⟨r_10, m_11, hc_12, h⟩ := bd_some h
        refine c_V (rest := []) X hP hS (tX12_groansPlain hI  hc_12) (by decide) (L_ref _) rfl wt_8_26 wt_8_28 ws_5_15 wt_1_13 wt_8_29 ⟨rfl, hy_X12_groansPlain⟩ ⟨rfl, rfl⟩ ⟨Nat.le_of_ble_eq_true rfl, Nat.le_of_ble_eq_true rfl⟩ rfl hl.1 rfl (Nat.le_of_ble_eq_true rfl) dX12_groans_54 rfl (fun H locs hP hS => ?_)
        exact r_iret X hP hS dX12_groans_57 h
      · have h := ifp c_9 h
        refine lv_aload_n hx hb dX12_groans_38 rfl (lv_at hl 0 rfl) ?_
        refine lv_bipush (v := 60) hx hb dX12_groans_39 (by decide) ?_
        obtain ⟨r_13, m_14, hc_15, h⟩ := bd_some h
        refine c_V (rest := []) X hP hS (tX12_runs hI  hc_15) (by decide) (L_ref _) rfl wt_8_14 wt_8_16 ws_5_12 wt_1_13 wt_8_17 ⟨rfl, hy_X12_runs⟩ ⟨rfl, rfl⟩ ⟨Nat.le_of_ble_eq_true rfl, Nat.le_of_ble_eq_true rfl⟩ rfl hl.1 rfl (Nat.le_of_ble_eq_true rfl) dX12_groans_41 rfl (fun H locs hP hS => ?_)
        refine lv_aload_n hx hb dX12_groans_44 rfl (lv_at hl 0 rfl) ?_
        refine lv_iload_n hx hb dX12_groans_45 rfl (lv_at hl 1 rfl) ?_
        refine lv_iconst (v := 4) hx hb dX12_groans_46 (by decide) ?_
        refine lv_iadd hx hb dX12_groans_47 ?_
        obtain ⟨r_16, m_17, hc_18, h⟩ := bd_some h
        refine c_V (rest := []) X hP hS (tX12_groansPlain hI  hc_18) (by decide) (L_ref _) rfl wt_8_26 wt_8_28 ws_5_15 wt_1_13 wt_8_29 ⟨rfl, hy_X12_groansPlain⟩ ⟨rfl, rfl⟩ ⟨Nat.le_of_ble_eq_true rfl, Nat.le_of_ble_eq_true rfl⟩ rfl hl.1 rfl (Nat.le_of_ble_eq_true rfl) dX12_groans_48 rfl (fun H locs hP hS => ?_)
        exact r_iret X hP hS dX12_groans_51 h
    · have h := ifp c_8 h
      exact tX12_groans_16 hI    X a1 m _ _ _  h hP hS (lv_sub hl [0, 1] rfl)

def fX12_partsPlain_30  (x1 : Int32) (s0 : Int32) (m : Mm) : Option (Int32 × Mm) := gb s0 (lt (up m 0 38 s0) fun m_6 => (if (m_6 0 38) = 0 then gz ((m_6 0 37) - (m_6 0 36)) (some ((x1 / ((m_6 0 37) - (m_6 0 36))), m_6)) else some (0, m_6)))
set_option maxHeartbeats 4000000 in
set_option maxRecDepth 100000 in
theorem tX12_partsPlain_30 (hI : InjA rN A)  {r : Int32} {m' : Mm} (X : CX rLay rN D cA A p s m0 args meth c "BenchTowelsModel" cX12_partsPlain 2 (some .int)) : ∀ (x1 : Int32) (s0 : Int32) (m : Mm) (H : Heap) (locs : List Loc) (ls : Array Slot), fX12_partsPlain_30 x1 s0 m = some (r, m') → va_P D vwCl (wsOf rLay rN cA A m) H → va_S (AW rN A) s.heap H locs → lv_has ls 2 [(0, .ref (A 0)), (1, .int x1)] → W p l e { frames := 1, cells := 0, slots := 0, locals := 21 } s m0 args below meth c H locs 0 0 (ZR below args s rLay rN D cA A (some (.int r)) m') (F0 m0 30 ls [.int s0, .ref (A 0)]) := by
  have hx := X.1
  have hb := X.2.1
  have hml := X.2.2.1
  have hown := X.2.2.2.1
  have hts := X.2.2.2.2.1
  have hF := X.2.2.2.2.2.2.2.2.1
  intro x1 s0 m H locs ls h hP hS hl
  rewrite [fX12_partsPlain_30] at h
  obtain ⟨hz_5, h⟩ := gb_some h
  obtain ⟨m_6, em_7, h⟩ := lt_some h
  refine r_putz kc_12 38 X hz_5 hP hS (by decide) (L_ref _) (L_ref _) (by decide) wt_5_210 rfl (by decide +kernel) (Nat.le_of_ble_eq_true rfl) dX12_partsPlain_30 em_7 (fun H locs hP hS => ?_)
  refine lv_aload_n hx hb dX12_partsPlain_33 rfl (lv_at hl 0 rfl) ?_
  refine r_get kc_12 38 X hP (by decide) (L_ref _) (by decide) rfl wt_5_210 dX12_partsPlain_34 ?_
  refine lv_if_eq (tgt := 44) hx hb dX12_partsPlain_37 (by decide) (fun c_8 => ?_) (fun c_8 => ?_)
  · have h := ifp c_8 h
    refine lv_iload_n hx hb dX12_partsPlain_44 rfl (lv_at hl 1 rfl) ?_
    refine lv_aload_n hx hb dX12_partsPlain_45 rfl (lv_at hl 0 rfl) ?_
    refine r_get kc_12 37 X hP (by decide) (L_ref _) (by decide) rfl wt_5_209 dX12_partsPlain_46 ?_
    refine lv_aload_n hx hb dX12_partsPlain_49 rfl (lv_at hl 0 rfl) ?_
    refine r_get kc_12 36 X hP (by decide) (L_ref _) (by decide) rfl wt_5_208 dX12_partsPlain_50 ?_
    refine lv_isub hx hb dX12_partsPlain_53 ?_
    obtain ⟨hz_9, h⟩ := gz_some h
    refine lv_idiv hx hb dX12_partsPlain_54 hz_9 ?_
    exact r_iret X hP hS dX12_partsPlain_55 h
  · have h := ifn c_8 h
    refine lv_iconst (v := 0) hx hb dX12_partsPlain_40 (by decide) ?_
    refine lv_goto (tgt := 55) hx hb dX12_partsPlain_41 (by decide) ?_
    exact r_iret X hP hS dX12_partsPlain_55 h

def fX12_partsPlain (a1 : Int32) (m : Mm) : Option (Int32 × Mm) := bd (fX12_runs (12 : Int32) m) fun r_1 m_2 => (if (m_2 0 38) = 0 then (if (m_2 0 36) = (m_2 0 37) then (fX12_partsPlain_30  a1 1 m_2) else (fX12_partsPlain_30  a1 0 m_2)) else (fX12_partsPlain_30  a1 1 m_2))
set_option maxHeartbeats 4000000 in
set_option maxRecDepth 100000 in
theorem tX12_partsPlain {l : Launch} {D : va_G} {cA : Nat → ClassId} {A : Nat → Nat} (hI : InjA rN A) {a1 : Int32} {m m' : Mm} {r : Int32} (h : fX12_partsPlain a1 m = some (r, m')) : Met0 l yX12_partsPlain cX12_partsPlain 2 (some .int) { frames := 1, cells := 0, slots := 0, locals := 21 } rLay rN D cA A [.ref (A 0), .int a1] m (some (.int r)) m' := by
  refine met0_of (by decide) (Nat.le_of_ble_eq_true rfl) hI ?_
  intro p e s m0 below meth c ls X hinit hP hS hl
  generalize ([.ref (A 0), .int a1] : List Value).toArray = args at X ⊢
  have hl : lv_has ls 2 [(0, .ref (A 0)), (1, .int a1)] := hl
  have X : CX rLay rN D cA A p s m0 args meth c "BenchTowelsModel" cX12_partsPlain 2 (some .int) := X
  have hx := X.1
  have hb := X.2.1
  have hml := X.2.2.1
  have hown := X.2.2.2.1
  have hts := X.2.2.2.2.1
  have hF := X.2.2.2.2.2.2.2.2.1
  rewrite [fX12_partsPlain] at h
  refine lv_aload_n hx hb dX12_partsPlain_0 rfl (lv_at hl 0 rfl) ?_
  refine lv_bipush (v := 12) hx hb dX12_partsPlain_1 (by decide) ?_
  obtain ⟨r_1, m_2, hc_3, h⟩ := bd_some h
  refine c_V (rest := []) X hP hS (tX12_runs hI  hc_3) (by decide) (L_ref _) rfl wt_8_14 wt_8_16 ws_5_12 wt_1_13 wt_8_17 ⟨rfl, hy_X12_runs⟩ ⟨rfl, rfl⟩ ⟨Nat.le_of_ble_eq_true rfl, Nat.le_of_ble_eq_true rfl⟩ rfl hl.1 rfl (Nat.le_of_ble_eq_true rfl) dX12_partsPlain_3 rfl (fun H locs hP hS => ?_)
  refine lv_aload_n hx hb dX12_partsPlain_6 rfl (lv_at hl 0 rfl) ?_
  refine lv_aload_n hx hb dX12_partsPlain_7 rfl (lv_at hl 0 rfl) ?_
  refine r_get kc_12 38 X hP (by decide) (L_ref _) (by decide) rfl wt_5_210 dX12_partsPlain_8 ?_
  refine lv_if_ne (tgt := 25) hx hb dX12_partsPlain_11 (by decide) (fun c_4 => ?_) (fun c_4 => ?_)
  · have h := ifn c_4 h
    refine lv_iconst (v := 1) hx hb dX12_partsPlain_25 (by decide) ?_
    refine lv_goto (tgt := 30) hx hb dX12_partsPlain_26 (by decide) ?_
    exact tX12_partsPlain_30 hI    X a1 1 m_2 _ _ _  h hP hS (lv_sub hl [0, 1] rfl)
  · have h := ifp c_4 h
    refine lv_aload_n hx hb dX12_partsPlain_14 rfl (lv_at hl 0 rfl) ?_
    refine r_get kc_12 36 X hP (by decide) (L_ref _) (by decide) rfl wt_5_208 dX12_partsPlain_15 ?_
    refine lv_aload_n hx hb dX12_partsPlain_18 rfl (lv_at hl 0 rfl) ?_
    refine r_get kc_12 37 X hP (by decide) (L_ref _) (by decide) rfl wt_5_209 dX12_partsPlain_19 ?_
    refine lv_icmp_ne (tgt := 29) hx hb dX12_partsPlain_22 (by decide) (fun c_10 => ?_) (fun c_10 => ?_)
    · have h := ifn c_10 h
      refine lv_iconst (v := 0) hx hb dX12_partsPlain_29 (by decide) ?_
      exact tX12_partsPlain_30 hI    X a1 0 m_2 _ _ _  h hP hS (lv_sub hl [0, 1] rfl)
    · have h := ifp c_10 h
      refine lv_iconst (v := 1) hx hb dX12_partsPlain_25 (by decide) ?_
      refine lv_goto (tgt := 30) hx hb dX12_partsPlain_26 (by decide) ?_
      exact tX12_partsPlain_30 hI    X a1 1 m_2 _ _ _  h hP hS (lv_sub hl [0, 1] rfl)

def fX12_partsHeld (a1 : Int32) (m : Mm) : Option (Int32 × Mm) := bd (fX12_runs (40 : Int32) m) fun r_1 m_2 => bd (fX12_partsPlain a1 m_2) fun r_4 m_5 => some ((r_4 ^^^ (m_5 0 37)), m_5)
set_option maxHeartbeats 4000000 in
set_option maxRecDepth 100000 in
theorem tX12_partsHeld {l : Launch} {D : va_G} {cA : Nat → ClassId} {A : Nat → Nat} (hI : InjA rN A) {a1 : Int32} {m m' : Mm} {r : Int32} (h : fX12_partsHeld a1 m = some (r, m')) : Met0 l yX12_partsHeld cX12_partsHeld 2 (some .int) { frames := 2, cells := 0, slots := 0, locals := 42 } rLay rN D cA A [.ref (A 0), .int a1] m (some (.int r)) m' := by
  refine met0_of (by decide) (Nat.le_of_ble_eq_true rfl) hI ?_
  intro p e s m0 below meth c ls X hinit hP hS hl
  generalize ([.ref (A 0), .int a1] : List Value).toArray = args at X ⊢
  have hl : lv_has ls 2 [(0, .ref (A 0)), (1, .int a1)] := hl
  have X : CX rLay rN D cA A p s m0 args meth c "BenchTowelsModel" cX12_partsHeld 2 (some .int) := X
  have hx := X.1
  have hb := X.2.1
  have hml := X.2.2.1
  have hown := X.2.2.2.1
  have hts := X.2.2.2.2.1
  have hF := X.2.2.2.2.2.2.2.2.1
  rewrite [fX12_partsHeld] at h
  refine lv_aload_n hx hb dX12_partsHeld_0 rfl (lv_at hl 0 rfl) ?_
  refine lv_bipush (v := 40) hx hb dX12_partsHeld_1 (by decide) ?_
  obtain ⟨r_1, m_2, hc_3, h⟩ := bd_some h
  refine c_V (rest := []) X hP hS (tX12_runs hI  hc_3) (by decide) (L_ref _) rfl wt_8_14 wt_8_16 ws_5_12 wt_1_13 wt_8_17 ⟨rfl, hy_X12_runs⟩ ⟨rfl, rfl⟩ ⟨Nat.le_of_ble_eq_true rfl, Nat.le_of_ble_eq_true rfl⟩ rfl hl.1 rfl (Nat.le_of_ble_eq_true rfl) dX12_partsHeld_3 rfl (fun H locs hP hS => ?_)
  refine lv_aload_n hx hb dX12_partsHeld_6 rfl (lv_at hl 0 rfl) ?_
  refine lv_iload_n hx hb dX12_partsHeld_7 rfl (lv_at hl 1 rfl) ?_
  obtain ⟨r_4, m_5, hc_6, h⟩ := bd_some h
  refine c_V (rest := []) X hP hS (tX12_partsPlain hI  hc_6) (by decide) (L_ref _) rfl wt_8_38 wt_8_40 ws_6_2 wt_1_13 wt_8_41 ⟨rfl, hy_X12_partsPlain⟩ ⟨rfl, rfl⟩ ⟨Nat.le_of_ble_eq_true rfl, Nat.le_of_ble_eq_true rfl⟩ rfl hl.1 rfl (Nat.le_of_ble_eq_true rfl) dX12_partsHeld_8 rfl (fun H locs hP hS => ?_)
  refine lv_aload_n hx hb dX12_partsHeld_11 rfl (lv_at hl 0 rfl) ?_
  refine r_get kc_12 37 X hP (by decide) (L_ref _) (by decide) rfl wt_5_209 dX12_partsHeld_12 ?_
  refine lv_ixor hx hb dX12_partsHeld_15 ?_
  exact r_iret X hP hS dX12_partsHeld_16 h

def fX12_parts (a1 : Int32) (m : Mm) : Option (Int32 × Mm) := (if (m 0 35) = 4 then bd (fX12_partsHeld a1 m) fun r_16 m_17 => some (r_16, m_17) else (if (m 0 35) = 5 then bd (fX12_runs (61 : Int32) m) fun r_3 m_4 => bd (fX12_partsHeld a1 m_4) fun r_6 m_7 => (if (m_7 0 38) = 0 then bd (fX12_lifts (1 : Int32) m_7) fun r_10 m_11 => some ((r_6 * r_10), m_11) else some (0, m_7)) else bd (fX12_partsPlain a1 m) fun r_13 m_14 => some (r_13, m_14)))
set_option maxHeartbeats 4000000 in
set_option maxRecDepth 100000 in
theorem tX12_parts {l : Launch} {D : va_G} {cA : Nat → ClassId} {A : Nat → Nat} (hI : InjA rN A) {a1 : Int32} {m m' : Mm} {r : Int32} (h : fX12_parts a1 m = some (r, m')) : Met0 l yX12_parts cX12_parts 3 (some .int) { frames := 3, cells := 0, slots := 0, locals := 63 } rLay rN D cA A [.ref (A 0), .int a1] m (some (.int r)) m' := by
  refine met0_of (by decide) (Nat.le_of_ble_eq_true rfl) hI ?_
  intro p e s m0 below meth c ls X hinit hP hS hl
  generalize ([.ref (A 0), .int a1] : List Value).toArray = args at X ⊢
  have hl : lv_has ls 3 [(0, .ref (A 0)), (1, .int a1)] := hl
  have X : CX rLay rN D cA A p s m0 args meth c "BenchTowelsModel" cX12_parts 3 (some .int) := X
  have hx := X.1
  have hb := X.2.1
  have hml := X.2.2.1
  have hown := X.2.2.2.1
  have hts := X.2.2.2.2.1
  have hF := X.2.2.2.2.2.2.2.2.1
  rewrite [fX12_parts] at h
  refine lv_aload_n hx hb dX12_parts_0 rfl (lv_at hl 0 rfl) ?_
  refine r_get kc_12 35 X hP (by decide) (L_ref _) (by decide) rfl wt_5_207 dX12_parts_1 ?_
  refine lv_iconst (v := 4) hx hb dX12_parts_4 (by decide) ?_
  refine lv_icmp_ne (tgt := 14) hx hb dX12_parts_5 (by decide) (fun c_1 => ?_) (fun c_1 => ?_)
  · have h := ifn c_1 h
    refine lv_aload_n hx hb dX12_parts_14 rfl (lv_at hl 0 rfl) ?_
    refine r_get kc_12 35 X hP (by decide) (L_ref _) (by decide) rfl wt_5_207 dX12_parts_15 ?_
    refine lv_iconst (v := 5) hx hb dX12_parts_18 (by decide) ?_
    refine lv_icmp_eq (tgt := 28) hx hb dX12_parts_19 (by decide) (fun c_2 => ?_) (fun c_2 => ?_)
    · have h := ifp c_2 h
      refine lv_aload_n hx hb dX12_parts_28 rfl (lv_at hl 0 rfl) ?_
      refine lv_bipush (v := 61) hx hb dX12_parts_29 (by decide) ?_
      obtain ⟨r_3, m_4, hc_5, h⟩ := bd_some h
      refine c_V (rest := []) X hP hS (tX12_runs hI  hc_5) (by decide) (L_ref _) rfl wt_8_14 wt_8_16 ws_5_12 wt_1_13 wt_8_17 ⟨rfl, hy_X12_runs⟩ ⟨rfl, rfl⟩ ⟨Nat.le_of_ble_eq_true rfl, Nat.le_of_ble_eq_true rfl⟩ rfl hl.1 rfl (Nat.le_of_ble_eq_true rfl) dX12_parts_31 rfl (fun H locs hP hS => ?_)
      refine lv_aload_n hx hb dX12_parts_34 rfl (lv_at hl 0 rfl) ?_
      refine lv_iload_n hx hb dX12_parts_35 rfl (lv_at hl 1 rfl) ?_
      obtain ⟨r_6, m_7, hc_8, h⟩ := bd_some h
      refine c_V (rest := []) X hP hS (tX12_partsHeld hI  hc_8) (by decide) (L_ref _) rfl wt_8_34 wt_8_36 ws_6_1 wt_1_13 wt_8_37 ⟨rfl, hy_X12_partsHeld⟩ ⟨rfl, rfl⟩ ⟨Nat.le_of_ble_eq_true rfl, Nat.le_of_ble_eq_true rfl⟩ rfl hl.1 rfl (Nat.le_of_ble_eq_true rfl) dX12_parts_36 rfl (fun H locs hP hS => ?_)
      refine lv_istore_n (lv' := [(2, .int r_6), (0, .ref (A 0)), (1, .int a1)]) hx hb dX12_parts_39 rfl hl (by decide) rfl (fun ls hl => ?_)
      refine lv_aload_n hx hb dX12_parts_40 rfl (lv_at hl 1 rfl) ?_
      refine r_get kc_12 38 X hP (by decide) (L_ref _) (by decide) rfl wt_5_210 dX12_parts_41 ?_
      refine lv_if_eq (tgt := 51) hx hb dX12_parts_44 (by decide) (fun c_9 => ?_) (fun c_9 => ?_)
      · have h := ifp c_9 h
        refine lv_iload_n hx hb dX12_parts_51 rfl (lv_at hl 0 rfl) ?_
        refine lv_aload_n hx hb dX12_parts_52 rfl (lv_at hl 1 rfl) ?_
        refine lv_iconst (v := 1) hx hb dX12_parts_53 (by decide) ?_
        obtain ⟨r_10, m_11, hc_12, h⟩ := bd_some h
        refine c_V (rest := [.int r_6]) X hP hS (tX12_lifts hI  hc_12) (by decide) (L_ref _) rfl wt_8_10 wt_8_12 ws_5_11 wt_1_13 wt_8_13 ⟨rfl, hy_X12_lifts⟩ ⟨rfl, rfl⟩ ⟨Nat.le_of_ble_eq_true rfl, Nat.le_of_ble_eq_true rfl⟩ rfl hl.1 rfl (Nat.le_of_ble_eq_true rfl) dX12_parts_54 rfl (fun H locs hP hS => ?_)
        refine lv_imul hx hb dX12_parts_57 ?_
        exact r_iret X hP hS dX12_parts_58 h
      · have h := ifn c_9 h
        refine lv_iconst (v := 0) hx hb dX12_parts_47 (by decide) ?_
        refine lv_goto (tgt := 58) hx hb dX12_parts_48 (by decide) ?_
        exact r_iret X hP hS dX12_parts_58 h
    · have h := ifn c_2 h
      refine lv_aload_n hx hb dX12_parts_22 rfl (lv_at hl 0 rfl) ?_
      refine lv_iload_n hx hb dX12_parts_23 rfl (lv_at hl 1 rfl) ?_
      obtain ⟨r_13, m_14, hc_15, h⟩ := bd_some h
      refine c_V (rest := []) X hP hS (tX12_partsPlain hI  hc_15) (by decide) (L_ref _) rfl wt_8_38 wt_8_40 ws_6_2 wt_1_13 wt_8_41 ⟨rfl, hy_X12_partsPlain⟩ ⟨rfl, rfl⟩ ⟨Nat.le_of_ble_eq_true rfl, Nat.le_of_ble_eq_true rfl⟩ rfl hl.1 rfl (Nat.le_of_ble_eq_true rfl) dX12_parts_24 rfl (fun H locs hP hS => ?_)
      exact r_iret X hP hS dX12_parts_27 h
  · have h := ifp c_1 h
    refine lv_aload_n hx hb dX12_parts_8 rfl (lv_at hl 0 rfl) ?_
    refine lv_iload_n hx hb dX12_parts_9 rfl (lv_at hl 1 rfl) ?_
    obtain ⟨r_16, m_17, hc_18, h⟩ := bd_some h
    refine c_V (rest := []) X hP hS (tX12_partsHeld hI  hc_18) (by decide) (L_ref _) rfl wt_8_34 wt_8_36 ws_6_1 wt_1_13 wt_8_37 ⟨rfl, hy_X12_partsHeld⟩ ⟨rfl, rfl⟩ ⟨Nat.le_of_ble_eq_true rfl, Nat.le_of_ble_eq_true rfl⟩ rfl hl.1 rfl (Nat.le_of_ble_eq_true rfl) dX12_parts_10 rfl (fun H locs hP hS => ?_)
    exact r_iret X hP hS dX12_parts_13 h

def fX12_wipesPlain (a1 : Int32) (m : Mm) : Option (Int32 × Mm) := bd (fX12_runs (13 : Int32) m) fun r_1 m_2 => bd (fX12_groans a1 m_2) fun r_4 m_5 => bd (fX12_parts a1 m_5) fun r_7 m_8 => some ((r_4 - r_7), m_8)
set_option maxHeartbeats 4000000 in
set_option maxRecDepth 100000 in
theorem tX12_wipesPlain {l : Launch} {D : va_G} {cA : Nat → ClassId} {A : Nat → Nat} (hI : InjA rN A) {a1 : Int32} {m m' : Mm} {r : Int32} (h : fX12_wipesPlain a1 m = some (r, m')) : Met0 l yX12_wipesPlain cX12_wipesPlain 3 (some .int) { frames := 5, cells := 0, slots := 0, locals := 105 } rLay rN D cA A [.ref (A 0), .int a1] m (some (.int r)) m' := by
  refine met0_of (by decide) (Nat.le_of_ble_eq_true rfl) hI ?_
  intro p e s m0 below meth c ls X hinit hP hS hl
  generalize ([.ref (A 0), .int a1] : List Value).toArray = args at X ⊢
  have hl : lv_has ls 3 [(0, .ref (A 0)), (1, .int a1)] := hl
  have X : CX rLay rN D cA A p s m0 args meth c "BenchTowelsModel" cX12_wipesPlain 3 (some .int) := X
  have hx := X.1
  have hb := X.2.1
  have hml := X.2.2.1
  have hown := X.2.2.2.1
  have hts := X.2.2.2.2.1
  have hF := X.2.2.2.2.2.2.2.2.1
  rewrite [fX12_wipesPlain] at h
  refine lv_aload_n hx hb dX12_wipesPlain_0 rfl (lv_at hl 0 rfl) ?_
  refine lv_bipush (v := 13) hx hb dX12_wipesPlain_1 (by decide) ?_
  obtain ⟨r_1, m_2, hc_3, h⟩ := bd_some h
  refine c_V (rest := []) X hP hS (tX12_runs hI  hc_3) (by decide) (L_ref _) rfl wt_8_14 wt_8_16 ws_5_12 wt_1_13 wt_8_17 ⟨rfl, hy_X12_runs⟩ ⟨rfl, rfl⟩ ⟨Nat.le_of_ble_eq_true rfl, Nat.le_of_ble_eq_true rfl⟩ rfl hl.1 rfl (Nat.le_of_ble_eq_true rfl) dX12_wipesPlain_3 rfl (fun H locs hP hS => ?_)
  refine lv_aload_n hx hb dX12_wipesPlain_6 rfl (lv_at hl 0 rfl) ?_
  refine lv_iload_n hx hb dX12_wipesPlain_7 rfl (lv_at hl 1 rfl) ?_
  obtain ⟨r_4, m_5, hc_6, h⟩ := bd_some h
  refine c_V (rest := []) X hP hS (tX12_groans hI  hc_6) (by decide) (L_ref _) rfl wt_8_22 wt_8_24 ws_5_14 wt_1_13 wt_8_25 ⟨rfl, hy_X12_groans⟩ ⟨rfl, rfl⟩ ⟨Nat.le_of_ble_eq_true rfl, Nat.le_of_ble_eq_true rfl⟩ rfl hl.1 rfl (Nat.le_of_ble_eq_true rfl) dX12_wipesPlain_8 rfl (fun H locs hP hS => ?_)
  refine lv_istore_n (lv' := [(2, .int r_4), (0, .ref (A 0)), (1, .int a1)]) hx hb dX12_wipesPlain_11 rfl hl (by decide) rfl (fun ls hl => ?_)
  refine lv_iload_n hx hb dX12_wipesPlain_12 rfl (lv_at hl 0 rfl) ?_
  refine lv_aload_n hx hb dX12_wipesPlain_13 rfl (lv_at hl 1 rfl) ?_
  refine lv_iload_n hx hb dX12_wipesPlain_14 rfl (lv_at hl 2 rfl) ?_
  obtain ⟨r_7, m_8, hc_9, h⟩ := bd_some h
  refine c_V (rest := [.int r_4]) X hP hS (tX12_parts hI  hc_9) (by decide) (L_ref _) rfl wt_8_30 wt_8_32 ws_6_0 wt_1_13 wt_8_33 ⟨rfl, hy_X12_parts⟩ ⟨rfl, rfl⟩ ⟨Nat.le_of_ble_eq_true rfl, Nat.le_of_ble_eq_true rfl⟩ rfl hl.1 rfl (Nat.le_of_ble_eq_true rfl) dX12_wipesPlain_15 rfl (fun H locs hP hS => ?_)
  refine lv_isub hx hb dX12_wipesPlain_18 ?_
  exact r_iret X hP hS dX12_wipesPlain_19 h

def fX12_wipes (a1 : Int32) (m : Mm) : Option (Int32 × Mm) := (if (m 0 35) = 3 then bd (fX12_runs (51 : Int32) m) fun r_2 m_3 => bd (fX12_wipesPlain a1 m_3) fun r_5 m_6 => (if (m_6 0 38) = 0 then bd (fX12_groans (m_6 0 36) m_6) fun r_9 m_10 => some ((r_5 ^^^ r_9), m_10) else some (0, m_6)) else bd (fX12_wipesPlain a1 m) fun r_12 m_13 => some (r_12, m_13))
set_option maxHeartbeats 4000000 in
set_option maxRecDepth 100000 in
theorem tX12_wipes {l : Launch} {D : va_G} {cA : Nat → ClassId} {A : Nat → Nat} (hI : InjA rN A) {a1 : Int32} {m m' : Mm} {r : Int32} (h : fX12_wipes a1 m = some (r, m')) : Met0 l yX12_wipes cX12_wipes 3 (some .int) { frames := 6, cells := 0, slots := 0, locals := 127 } rLay rN D cA A [.ref (A 0), .int a1] m (some (.int r)) m' := by
  refine met0_of (by decide) (Nat.le_of_ble_eq_true rfl) hI ?_
  intro p e s m0 below meth c ls X hinit hP hS hl
  generalize ([.ref (A 0), .int a1] : List Value).toArray = args at X ⊢
  have hl : lv_has ls 3 [(0, .ref (A 0)), (1, .int a1)] := hl
  have X : CX rLay rN D cA A p s m0 args meth c "BenchTowelsModel" cX12_wipes 3 (some .int) := X
  have hx := X.1
  have hb := X.2.1
  have hml := X.2.2.1
  have hown := X.2.2.2.1
  have hts := X.2.2.2.2.1
  have hF := X.2.2.2.2.2.2.2.2.1
  rewrite [fX12_wipes] at h
  refine lv_aload_n hx hb dX12_wipes_0 rfl (lv_at hl 0 rfl) ?_
  refine r_get kc_12 35 X hP (by decide) (L_ref _) (by decide) rfl wt_5_207 dX12_wipes_1 ?_
  refine lv_iconst (v := 3) hx hb dX12_wipes_4 (by decide) ?_
  refine lv_icmp_eq (tgt := 14) hx hb dX12_wipes_5 (by decide) (fun c_1 => ?_) (fun c_1 => ?_)
  · have h := ifp c_1 h
    refine lv_aload_n hx hb dX12_wipes_14 rfl (lv_at hl 0 rfl) ?_
    refine lv_bipush (v := 51) hx hb dX12_wipes_15 (by decide) ?_
    obtain ⟨r_2, m_3, hc_4, h⟩ := bd_some h
    refine c_V (rest := []) X hP hS (tX12_runs hI  hc_4) (by decide) (L_ref _) rfl wt_8_14 wt_8_16 ws_5_12 wt_1_13 wt_8_17 ⟨rfl, hy_X12_runs⟩ ⟨rfl, rfl⟩ ⟨Nat.le_of_ble_eq_true rfl, Nat.le_of_ble_eq_true rfl⟩ rfl hl.1 rfl (Nat.le_of_ble_eq_true rfl) dX12_wipes_17 rfl (fun H locs hP hS => ?_)
    refine lv_aload_n hx hb dX12_wipes_20 rfl (lv_at hl 0 rfl) ?_
    refine lv_iload_n hx hb dX12_wipes_21 rfl (lv_at hl 1 rfl) ?_
    obtain ⟨r_5, m_6, hc_7, h⟩ := bd_some h
    refine c_V (rest := []) X hP hS (tX12_wipesPlain hI  hc_7) (by decide) (L_ref _) rfl wt_8_46 wt_8_48 ws_6_4 wt_1_13 wt_8_49 ⟨rfl, hy_X12_wipesPlain⟩ ⟨rfl, rfl⟩ ⟨Nat.le_of_ble_eq_true rfl, Nat.le_of_ble_eq_true rfl⟩ rfl hl.1 rfl (Nat.le_of_ble_eq_true rfl) dX12_wipes_22 rfl (fun H locs hP hS => ?_)
    refine lv_istore_n (lv' := [(2, .int r_5), (0, .ref (A 0)), (1, .int a1)]) hx hb dX12_wipes_25 rfl hl (by decide) rfl (fun ls hl => ?_)
    refine lv_aload_n hx hb dX12_wipes_26 rfl (lv_at hl 1 rfl) ?_
    refine r_get kc_12 38 X hP (by decide) (L_ref _) (by decide) rfl wt_5_210 dX12_wipes_27 ?_
    refine lv_if_eq (tgt := 37) hx hb dX12_wipes_30 (by decide) (fun c_8 => ?_) (fun c_8 => ?_)
    · have h := ifp c_8 h
      refine lv_iload_n hx hb dX12_wipes_37 rfl (lv_at hl 0 rfl) ?_
      refine lv_aload_n hx hb dX12_wipes_38 rfl (lv_at hl 1 rfl) ?_
      refine lv_aload_n hx hb dX12_wipes_39 rfl (lv_at hl 1 rfl) ?_
      refine r_get kc_12 36 X hP (by decide) (L_ref _) (by decide) rfl wt_5_208 dX12_wipes_40 ?_
      obtain ⟨r_9, m_10, hc_11, h⟩ := bd_some h
      refine c_V (rest := [.int r_5]) X hP hS (tX12_groans hI  hc_11) (by decide) (L_ref _) rfl wt_8_22 wt_8_24 ws_5_14 wt_1_13 wt_8_25 ⟨rfl, hy_X12_groans⟩ ⟨rfl, rfl⟩ ⟨Nat.le_of_ble_eq_true rfl, Nat.le_of_ble_eq_true rfl⟩ rfl hl.1 rfl (Nat.le_of_ble_eq_true rfl) dX12_wipes_43 rfl (fun H locs hP hS => ?_)
      refine lv_ixor hx hb dX12_wipes_46 ?_
      exact r_iret X hP hS dX12_wipes_47 h
    · have h := ifn c_8 h
      refine lv_iconst (v := 0) hx hb dX12_wipes_33 (by decide) ?_
      refine lv_goto (tgt := 47) hx hb dX12_wipes_34 (by decide) ?_
      exact r_iret X hP hS dX12_wipes_47 h
  · have h := ifn c_1 h
    refine lv_aload_n hx hb dX12_wipes_8 rfl (lv_at hl 0 rfl) ?_
    refine lv_iload_n hx hb dX12_wipes_9 rfl (lv_at hl 1 rfl) ?_
    obtain ⟨r_12, m_13, hc_14, h⟩ := bd_some h
    refine c_V (rest := []) X hP hS (tX12_wipesPlain hI  hc_14) (by decide) (L_ref _) rfl wt_8_46 wt_8_48 ws_6_4 wt_1_13 wt_8_49 ⟨rfl, hy_X12_wipesPlain⟩ ⟨rfl, rfl⟩ ⟨Nat.le_of_ble_eq_true rfl, Nat.le_of_ble_eq_true rfl⟩ rfl hl.1 rfl (Nat.le_of_ble_eq_true rfl) dX12_wipes_10 rfl (fun H locs hP hS => ?_)
    exact r_iret X hP hS dX12_wipes_13 h

def fX12_act_123  (s0 : Int32) (m : Mm) : Option (Int32 × Mm) := (if (m 0 38) = 0 then some (s0, m) else some ((-15), m))
set_option maxHeartbeats 4000000 in
set_option maxRecDepth 100000 in
theorem tX12_act_123 (hI : InjA rN A)  {r : Int32} {m' : Mm} (X : CX rLay rN D cA A p s m0 args meth c "BenchTowelsModel" cX12_act 5 (some .int)) : ∀ (s0 : Int32) (m : Mm) (H : Heap) (locs : List Loc) (ls : Array Slot), fX12_act_123 s0 m = some (r, m') → va_P D vwCl (wsOf rLay rN cA A m) H → va_S (AW rN A) s.heap H locs → lv_has ls 5 [(0, .ref (A 0))] → W p l e { frames := 7, cells := 0, slots := 0, locals := 149 } s m0 args below meth c H locs 0 0 (ZR below args s rLay rN D cA A (some (.int r)) m') (F0 m0 123 ls [.int s0]) := by
  have hx := X.1
  have hb := X.2.1
  have hml := X.2.2.1
  have hown := X.2.2.2.1
  have hts := X.2.2.2.2.1
  have hF := X.2.2.2.2.2.2.2.2.1
  intro s0 m H locs ls h hP hS hl
  rewrite [fX12_act_123] at h
  refine lv_istore (lv' := [(4, .int s0), (0, .ref (A 0))]) hx hb dX12_act_123 hl (by decide) rfl (fun ls hl => ?_)
  refine lv_aload_n hx hb dX12_act_125 rfl (lv_at hl 1 rfl) ?_
  refine r_get kc_12 38 X hP (by decide) (L_ref _) (by decide) rfl wt_5_210 dX12_act_126 ?_
  refine lv_if_eq (tgt := 137) hx hb dX12_act_129 (by decide) (fun c_36 => ?_) (fun c_36 => ?_)
  · have h := ifp c_36 h
    refine lv_iload hx hb dX12_act_137 (lv_at hl 0 rfl) ?_
    exact r_iret X hP hS dX12_act_139 h
  · have h := ifn c_36 h
    refine lv_bipush (v := (-15)) hx hb dX12_act_132 (by decide) ?_
    refine lv_goto (tgt := 139) hx hb dX12_act_134 (by decide) ?_
    exact r_iret X hP hS dX12_act_139 h

def fX12_act (a1 : Int32) (a2 : Int32) (a3 : Int32) (m : Mm) : Option (Int32 × Mm) := lt (up m 0 34 0) fun m_1 => bd (fX12_isShelf a1 m_1) fun r_3 m_4 => (if r_3 = 0 then some (0, m_4) else bd (fX12_isIn (Int32.toInt64 a2) (0 : Int64) (3 : Int64) m_4) fun r_7 m_8 => (if r_7 = 0 then some (0, m_8) else bd (fX12_heldOn a1 m_8) fun r_11 m_12 => (if r_11 = 1 then lt (up m_12 0 38 0) fun m_15 => gx a1 4 (bd (fX12_its (m_15 13 (ix a1)) (0 : Int32) m_15) fun r_18 m_19 => lt (up m_19 0 35 r_18) fun m_21 => lt (up m_21 0 36 (m_21 13 (ix a1))) fun m_23 => bd (fX12_its (m_23 13 (ix a1)) (2 : Int32) m_23) fun r_25 m_26 => lt (up m_26 0 37 r_25) fun m_28 => (if a2 = 0 then bd (fX12_lifts a3 m_28) fun r_43 m_44 => (fX12_act_123  r_43 m_44) else (if a2 = 1 then bd (fX12_groans a3 m_28) fun r_40 m_41 => (fX12_act_123  r_40 m_41) else (if a2 = 2 then bd (fX12_parts a3 m_28) fun r_37 m_38 => (fX12_act_123  r_37 m_38) else bd (fX12_wipes a3 m_28) fun r_33 m_34 => (fX12_act_123  r_33 m_34))))) else some (0, m_12))))
set_option maxHeartbeats 4000000 in
set_option maxRecDepth 100000 in
theorem tX12_act {l : Launch} {D : va_G} {cA : Nat → ClassId} {A : Nat → Nat} (hI : InjA rN A) {a1 : Int32} {a2 : Int32} {a3 : Int32} {m m' : Mm} {r : Int32} (h : fX12_act a1 a2 a3 m = some (r, m')) : Met0 l yX12_act cX12_act 5 (some .int) { frames := 7, cells := 0, slots := 0, locals := 149 } rLay rN D cA A [.ref (A 0), .int a1, .int a2, .int a3] m (some (.int r)) m' := by
  refine met0_of (by decide) (Nat.le_of_ble_eq_true rfl) hI ?_
  intro p e s m0 below meth c ls X hinit hP hS hl
  generalize ([.ref (A 0), .int a1, .int a2, .int a3] : List Value).toArray = args at X ⊢
  have hl : lv_has ls 5 [(0, .ref (A 0)), (1, .int a1), (2, .int a2), (3, .int a3)] := hl
  have X : CX rLay rN D cA A p s m0 args meth c "BenchTowelsModel" cX12_act 5 (some .int) := X
  have hx := X.1
  have hb := X.2.1
  have hml := X.2.2.1
  have hown := X.2.2.2.1
  have hts := X.2.2.2.2.1
  have hF := X.2.2.2.2.2.2.2.2.1
  rewrite [fX12_act] at h
  refine lv_aload_n hx hb dX12_act_0 rfl (lv_at hl 0 rfl) ?_
  refine lv_iconst (v := 0) hx hb dX12_act_1 (by decide) ?_
  obtain ⟨m_1, em_2, h⟩ := lt_some h
  refine r_put kc_12 34 X hP hS (by decide) (L_ref _) (L_ref _) (by decide) wt_5_206 rfl (by decide +kernel) (Nat.le_of_ble_eq_true rfl) dX12_act_2 em_2 (fun H locs hP hS => ?_)
  refine lv_iload_n hx hb dX12_act_5 rfl (lv_at hl 1 rfl) ?_
  obtain ⟨r_3, m_4, hc_5, h⟩ := bd_some h
  refine c_S (rest := []) X hP hS (tX12_isShelf hI  hc_5) wt_7_233 wt_7_234 wt_1_13 wt_7_235 hy_X12_isShelf ⟨rfl, rfl⟩ ⟨Nat.le_of_ble_eq_true rfl, Nat.le_of_ble_eq_true rfl⟩ rfl hl.1 rfl (Nat.le_of_ble_eq_true rfl) dX12_act_6 rfl (fun H locs hP hS => ?_)
  refine lv_if_eq (tgt := 33) hx hb dX12_act_9 (by decide) (fun c_6 => ?_) (fun c_6 => ?_)
  · have h := ifp c_6 h
    refine lv_iconst (v := 0) hx hb dX12_act_33 (by decide) ?_
    exact r_iret X hP hS dX12_act_34 h
  · have h := ifn c_6 h
    refine lv_iload_n hx hb dX12_act_12 rfl (lv_at hl 2 rfl) ?_
    refine lv_i2l hx hb dX12_act_13 rfl ?_
    refine lv_lconst (v := 0) hx hb dX12_act_14 (by decide) ?_
    refine lv_ldc2 (v := 3) hx hb hown (hts _ wt_7_103) dX12_act_15 ?_
    obtain ⟨r_7, m_8, hc_9, h⟩ := bd_some h
    refine c_S (rest := []) X hP hS (tX12_isIn hI  hc_9) wt_6_55 wt_6_56 wt_1_13 wt_6_57 hy_X12_isIn ⟨rfl, rfl⟩ ⟨Nat.le_of_ble_eq_true rfl, Nat.le_of_ble_eq_true rfl⟩ rfl hl.1 rfl (Nat.le_of_ble_eq_true rfl) dX12_act_18 rfl (fun H locs hP hS => ?_)
    refine lv_if_eq (tgt := 33) hx hb dX12_act_21 (by decide) (fun c_10 => ?_) (fun c_10 => ?_)
    · have h := ifp c_10 h
      refine lv_iconst (v := 0) hx hb dX12_act_33 (by decide) ?_
      exact r_iret X hP hS dX12_act_34 h
    · have h := ifn c_10 h
      refine lv_aload_n hx hb dX12_act_24 rfl (lv_at hl 0 rfl) ?_
      refine lv_iload_n hx hb dX12_act_25 rfl (lv_at hl 1 rfl) ?_
      obtain ⟨r_11, m_12, hc_13, h⟩ := bd_some h
      refine c_V (rest := []) X hP hS (tX12_heldOn hI  hc_13) (by decide) (L_ref _) rfl wt_8_2 wt_8_4 ws_5_10 wt_1_13 wt_8_5 ⟨rfl, hy_X12_heldOn⟩ ⟨rfl, rfl⟩ ⟨Nat.le_of_ble_eq_true rfl, Nat.le_of_ble_eq_true rfl⟩ rfl hl.1 rfl (Nat.le_of_ble_eq_true rfl) dX12_act_26 rfl (fun H locs hP hS => ?_)
      refine lv_iconst (v := 1) hx hb dX12_act_29 (by decide) ?_
      refine lv_icmp_eq (tgt := 35) hx hb dX12_act_30 (by decide) (fun c_14 => ?_) (fun c_14 => ?_)
      · have h := ifp c_14 h
        refine lv_aload_n hx hb dX12_act_35 rfl (lv_at hl 0 rfl) ?_
        refine lv_iconst (v := 0) hx hb dX12_act_36 (by decide) ?_
        obtain ⟨m_15, em_16, h⟩ := lt_some h
        refine r_putz kc_12 38 X (Or.inl rfl) hP hS (by decide) (L_ref _) (L_ref _) (by decide) wt_5_210 rfl (by decide +kernel) (Nat.le_of_ble_eq_true rfl) dX12_act_37 em_16 (fun H locs hP hS => ?_)
        refine lv_aload_n hx hb dX12_act_40 rfl (lv_at hl 0 rfl) ?_
        refine lv_aload_n hx hb dX12_act_41 rfl (lv_at hl 0 rfl) ?_
        refine lv_aload_n hx hb dX12_act_42 rfl (lv_at hl 0 rfl) ?_
        refine r_get kc_12 31 X hP (by decide) (L_ref _) (by decide) rfl wt_5_203 dX12_act_43 ?_
        refine lv_iload_n hx hb dX12_act_46 rfl (lv_at hl 1 rfl) ?_
        obtain ⟨hin_17, h⟩ := gx_some h
        refine r_iald X hP (by decide) (Lr_13 _) hin_17 rfl dX12_act_47 ?_
        refine lv_iconst (v := 0) hx hb dX12_act_48 (by decide) ?_
        obtain ⟨r_18, m_19, hc_20, h⟩ := bd_some h
        refine c_V (rest := [.ref (A 0)]) X hP hS (tX12_its hI  hc_20) (by decide) (L_ref _) rfl wt_6_76 wt_6_78 ws_2_10 wt_1_13 wt_6_79 ⟨rfl, hy_X12_its⟩ ⟨rfl, rfl⟩ ⟨Nat.le_of_ble_eq_true rfl, Nat.le_of_ble_eq_true rfl⟩ rfl hl.1 rfl (Nat.le_of_ble_eq_true rfl) dX12_act_49 rfl (fun H locs hP hS => ?_)
        obtain ⟨m_21, em_22, h⟩ := lt_some h
        refine r_put kc_12 35 X hP hS (by decide) (L_ref _) (L_ref _) (by decide) wt_5_207 rfl (by decide +kernel) (Nat.le_of_ble_eq_true rfl) dX12_act_52 em_22 (fun H locs hP hS => ?_)
        refine lv_aload_n hx hb dX12_act_55 rfl (lv_at hl 0 rfl) ?_
        refine lv_aload_n hx hb dX12_act_56 rfl (lv_at hl 0 rfl) ?_
        refine r_get kc_12 31 X hP (by decide) (L_ref _) (by decide) rfl wt_5_203 dX12_act_57 ?_
        refine lv_iload_n hx hb dX12_act_60 rfl (lv_at hl 1 rfl) ?_
        refine r_iald X hP (by decide) (Lr_13 _) hin_17 rfl dX12_act_61 ?_
        obtain ⟨m_23, em_24, h⟩ := lt_some h
        refine r_put kc_12 36 X hP hS (by decide) (L_ref _) (L_ref _) (by decide) wt_5_208 rfl (by decide +kernel) (Nat.le_of_ble_eq_true rfl) dX12_act_62 em_24 (fun H locs hP hS => ?_)
        refine lv_aload_n hx hb dX12_act_65 rfl (lv_at hl 0 rfl) ?_
        refine lv_aload_n hx hb dX12_act_66 rfl (lv_at hl 0 rfl) ?_
        refine lv_aload_n hx hb dX12_act_67 rfl (lv_at hl 0 rfl) ?_
        refine r_get kc_12 31 X hP (by decide) (L_ref _) (by decide) rfl wt_5_203 dX12_act_68 ?_
        refine lv_iload_n hx hb dX12_act_71 rfl (lv_at hl 1 rfl) ?_
        refine r_iald X hP (by decide) (Lr_13 _) hin_17 rfl dX12_act_72 ?_
        refine lv_iconst (v := 2) hx hb dX12_act_73 (by decide) ?_
        obtain ⟨r_25, m_26, hc_27, h⟩ := bd_some h
        refine c_V (rest := [.ref (A 0)]) X hP hS (tX12_its hI  hc_27) (by decide) (L_ref _) rfl wt_6_76 wt_6_78 ws_2_10 wt_1_13 wt_6_79 ⟨rfl, hy_X12_its⟩ ⟨rfl, rfl⟩ ⟨Nat.le_of_ble_eq_true rfl, Nat.le_of_ble_eq_true rfl⟩ rfl hl.1 rfl (Nat.le_of_ble_eq_true rfl) dX12_act_74 rfl (fun H locs hP hS => ?_)
        obtain ⟨m_28, em_29, h⟩ := lt_some h
        refine r_put kc_12 37 X hP hS (by decide) (L_ref _) (L_ref _) (by decide) wt_5_209 rfl (by decide +kernel) (Nat.le_of_ble_eq_true rfl) dX12_act_77 em_29 (fun H locs hP hS => ?_)
        refine lv_iload_n hx hb dX12_act_80 rfl (lv_at hl 2 rfl) ?_
        refine lv_if_ne (tgt := 92) hx hb dX12_act_81 (by decide) (fun c_30 => ?_) (fun c_30 => ?_)
        · have h := ifn c_30 h
          refine lv_iload_n hx hb dX12_act_92 rfl (lv_at hl 2 rfl) ?_
          refine lv_iconst (v := 1) hx hb dX12_act_93 (by decide) ?_
          refine lv_icmp_ne (tgt := 105) hx hb dX12_act_94 (by decide) (fun c_31 => ?_) (fun c_31 => ?_)
          · have h := ifn c_31 h
            refine lv_iload_n hx hb dX12_act_105 rfl (lv_at hl 2 rfl) ?_
            refine lv_iconst (v := 2) hx hb dX12_act_106 (by decide) ?_
            refine lv_icmp_ne (tgt := 118) hx hb dX12_act_107 (by decide) (fun c_32 => ?_) (fun c_32 => ?_)
            · have h := ifn c_32 h
              refine lv_aload_n hx hb dX12_act_118 rfl (lv_at hl 0 rfl) ?_
              refine lv_iload_n hx hb dX12_act_119 rfl (lv_at hl 3 rfl) ?_
              obtain ⟨r_33, m_34, hc_35, h⟩ := bd_some h
              refine c_V (rest := []) X hP hS (tX12_wipes hI  hc_35) (by decide) (L_ref _) rfl wt_8_42 wt_8_44 ws_6_3 wt_1_13 wt_8_45 ⟨rfl, hy_X12_wipes⟩ ⟨rfl, rfl⟩ ⟨Nat.le_of_ble_eq_true rfl, Nat.le_of_ble_eq_true rfl⟩ rfl hl.1 rfl (Nat.le_of_ble_eq_true rfl) dX12_act_120 rfl (fun H locs hP hS => ?_)
              exact tX12_act_123 hI    X r_33 m_34 _ _ _  h hP hS (lv_sub hl [0] rfl)
            · have h := ifp c_32 h
              refine lv_aload_n hx hb dX12_act_110 rfl (lv_at hl 0 rfl) ?_
              refine lv_iload_n hx hb dX12_act_111 rfl (lv_at hl 3 rfl) ?_
              obtain ⟨r_37, m_38, hc_39, h⟩ := bd_some h
              refine c_V (rest := []) X hP hS (tX12_parts hI  hc_39) (by decide) (L_ref _) rfl wt_8_30 wt_8_32 ws_6_0 wt_1_13 wt_8_33 ⟨rfl, hy_X12_parts⟩ ⟨rfl, rfl⟩ ⟨Nat.le_of_ble_eq_true rfl, Nat.le_of_ble_eq_true rfl⟩ rfl hl.1 rfl (Nat.le_of_ble_eq_true rfl) dX12_act_112 rfl (fun H locs hP hS => ?_)
              refine lv_goto (tgt := 123) hx hb dX12_act_115 (by decide) ?_
              exact tX12_act_123 hI    X r_37 m_38 _ _ _  h hP hS (lv_sub hl [0] rfl)
          · have h := ifp c_31 h
            refine lv_aload_n hx hb dX12_act_97 rfl (lv_at hl 0 rfl) ?_
            refine lv_iload_n hx hb dX12_act_98 rfl (lv_at hl 3 rfl) ?_
            obtain ⟨r_40, m_41, hc_42, h⟩ := bd_some h
            refine c_V (rest := []) X hP hS (tX12_groans hI  hc_42) (by decide) (L_ref _) rfl wt_8_22 wt_8_24 ws_5_14 wt_1_13 wt_8_25 ⟨rfl, hy_X12_groans⟩ ⟨rfl, rfl⟩ ⟨Nat.le_of_ble_eq_true rfl, Nat.le_of_ble_eq_true rfl⟩ rfl hl.1 rfl (Nat.le_of_ble_eq_true rfl) dX12_act_99 rfl (fun H locs hP hS => ?_)
            refine lv_goto (tgt := 123) hx hb dX12_act_102 (by decide) ?_
            exact tX12_act_123 hI    X r_40 m_41 _ _ _  h hP hS (lv_sub hl [0] rfl)
        · have h := ifp c_30 h
          refine lv_aload_n hx hb dX12_act_84 rfl (lv_at hl 0 rfl) ?_
          refine lv_iload_n hx hb dX12_act_85 rfl (lv_at hl 3 rfl) ?_
          obtain ⟨r_43, m_44, hc_45, h⟩ := bd_some h
          refine c_V (rest := []) X hP hS (tX12_lifts hI  hc_45) (by decide) (L_ref _) rfl wt_8_10 wt_8_12 ws_5_11 wt_1_13 wt_8_13 ⟨rfl, hy_X12_lifts⟩ ⟨rfl, rfl⟩ ⟨Nat.le_of_ble_eq_true rfl, Nat.le_of_ble_eq_true rfl⟩ rfl hl.1 rfl (Nat.le_of_ble_eq_true rfl) dX12_act_86 rfl (fun H locs hP hS => ?_)
          refine lv_goto (tgt := 123) hx hb dX12_act_89 (by decide) ?_
          exact tX12_act_123 hI    X r_43 m_44 _ _ _  h hP hS (lv_sub hl [0] rfl)
      · have h := ifn c_14 h
        refine lv_iconst (v := 0) hx hb dX12_act_33 (by decide) ?_
        exact r_iret X hP hS dX12_act_34 h

def fX12_trace (a1 : Int32) (m : Mm) : Option (Int32 × Mm) := bd (fX12_isIn (Int32.toInt64 a1) (0 : Int64) (Int32.toInt64 ((m 0 34) - 1)) m) fun r_1 m_2 => (if r_1 = 0 then some ((-3), m_2) else gx a1 30 (some ((m_2 15 (ix a1)), m_2)))
set_option maxHeartbeats 4000000 in
set_option maxRecDepth 100000 in
theorem tX12_trace {l : Launch} {D : va_G} {cA : Nat → ClassId} {A : Nat → Nat} (hI : InjA rN A) {a1 : Int32} {m m' : Mm} {r : Int32} (h : fX12_trace a1 m = some (r, m')) : Met0 l yX12_trace cX12_trace 2 (some .int) { frames := 1, cells := 0, slots := 0, locals := 25 } rLay rN D cA A [.ref (A 0), .int a1] m (some (.int r)) m' := by
  refine met0_of (by decide) (Nat.le_of_ble_eq_true rfl) hI ?_
  intro p e s m0 below meth c ls X hinit hP hS hl
  generalize ([.ref (A 0), .int a1] : List Value).toArray = args at X ⊢
  have hl : lv_has ls 2 [(0, .ref (A 0)), (1, .int a1)] := hl
  have X : CX rLay rN D cA A p s m0 args meth c "BenchTowelsModel" cX12_trace 2 (some .int) := X
  have hx := X.1
  have hb := X.2.1
  have hml := X.2.2.1
  have hown := X.2.2.2.1
  have hts := X.2.2.2.2.1
  have hF := X.2.2.2.2.2.2.2.2.1
  rewrite [fX12_trace] at h
  refine lv_iload_n hx hb dX12_trace_0 rfl (lv_at hl 1 rfl) ?_
  refine lv_i2l hx hb dX12_trace_1 rfl ?_
  refine lv_lconst (v := 0) hx hb dX12_trace_2 (by decide) ?_
  refine lv_aload_n hx hb dX12_trace_3 rfl (lv_at hl 0 rfl) ?_
  refine r_get kc_12 34 X hP (by decide) (L_ref _) (by decide) rfl wt_5_206 dX12_trace_4 ?_
  refine lv_iconst (v := 1) hx hb dX12_trace_7 (by decide) ?_
  refine lv_isub hx hb dX12_trace_8 ?_
  refine lv_i2l hx hb dX12_trace_9 rfl ?_
  obtain ⟨r_1, m_2, hc_3, h⟩ := bd_some h
  refine c_S (rest := []) X hP hS (tX12_isIn hI  hc_3) wt_6_55 wt_6_56 wt_1_13 wt_6_57 hy_X12_isIn ⟨rfl, rfl⟩ ⟨Nat.le_of_ble_eq_true rfl, Nat.le_of_ble_eq_true rfl⟩ rfl hl.1 rfl (Nat.le_of_ble_eq_true rfl) dX12_trace_10 rfl (fun H locs hP hS => ?_)
  refine lv_if_eq (tgt := 25) hx hb dX12_trace_13 (by decide) (fun c_4 => ?_) (fun c_4 => ?_)
  · have h := ifp c_4 h
    refine lv_bipush (v := (-3)) hx hb dX12_trace_25 (by decide) ?_
    exact r_iret X hP hS dX12_trace_27 h
  · have h := ifn c_4 h
    refine lv_aload_n hx hb dX12_trace_16 rfl (lv_at hl 0 rfl) ?_
    refine r_get kc_12 33 X hP (by decide) (L_ref _) (by decide) rfl wt_5_205 dX12_trace_17 ?_
    refine lv_iload_n hx hb dX12_trace_20 rfl (lv_at hl 1 rfl) ?_
    obtain ⟨hin_5, h⟩ := gx_some h
    refine r_iald X hP (by decide) (Lr_15 _) hin_5 rfl dX12_trace_21 ?_
    refine lv_goto (tgt := 27) hx hb dX12_trace_22 (by decide) ?_
    exact r_iret X hP hS dX12_trace_27 h

def fX12_many (a1 : Int32) (m : Mm) : Option (Int32 × Mm) := (if a1 = 0 then some ((m 1 0), m) else (if a1 = 1 then some ((m 1 5), m) else (if a1 = 2 then bd (fX12_noneLeft m) fun r_4 m_5 => bd (fX12_size r_4 m_5) fun r_7 m_8 => some (r_7, m_8) else (if a1 = 3 then some ((m 1 6), m) else (if a1 = 4 then some ((m 0 26), m) else (if a1 = 5 then some ((m 0 5), m) else (if a1 = 6 then some ((m 0 34), m) else some ((-1), m))))))))
set_option maxHeartbeats 4000000 in
set_option maxRecDepth 100000 in
theorem tX12_many {l : Launch} {D : va_G} {cA : Nat → ClassId} {A : Nat → Nat} (hI : InjA rN A) {a1 : Int32} {m m' : Mm} {r : Int32} (h : fX12_many a1 m = some (r, m')) : Met0 l yX12_many cX12_many 2 (some .int) { frames := 2, cells := 0, slots := 0, locals := 44 } rLay rN D cA A [.ref (A 0), .int a1] m (some (.int r)) m' := by
  refine met0_of (by decide) (Nat.le_of_ble_eq_true rfl) hI ?_
  intro p e s m0 below meth c ls X hinit hP hS hl
  generalize ([.ref (A 0), .int a1] : List Value).toArray = args at X ⊢
  have hl : lv_has ls 2 [(0, .ref (A 0)), (1, .int a1)] := hl
  have X : CX rLay rN D cA A p s m0 args meth c "BenchTowelsModel" cX12_many 2 (some .int) := X
  have hx := X.1
  have hb := X.2.1
  have hml := X.2.2.1
  have hown := X.2.2.2.1
  have hts := X.2.2.2.2.1
  have hF := X.2.2.2.2.2.2.2.2.1
  rewrite [fX12_many] at h
  refine lv_iload_n hx hb dX12_many_0 rfl (lv_at hl 1 rfl) ?_
  by_cases c_1 : a1 = 0
  · have h := ifp c_1 h
    refine lv_ren c_1.symm ?_
    refine lv_tableIn (tgt := 44) hx hb dX12_many_1 (by decide) (by decide) rfl (by decide) ?_
    refine lv_aload_n hx hb dX12_many_44 rfl (lv_at hl 0 rfl) ?_
    refine r_get kc_12 0 X hP (by decide) (L_ref _) (by decide) rfl wt_5_172 dX12_many_45 ?_
    refine lv_iconst (v := 0) hx hb dX12_many_48 (by decide) ?_
    refine r_iald X hP (by decide) (Lr_1 _) (vpc (by decide)) ixc_0 dX12_many_49 ?_
    exact r_iret X hP hS dX12_many_50 h
  have h := ifn c_1 h
  by_cases c_2 : a1 = 1
  · have h := ifp c_2 h
    refine lv_ren c_2.symm ?_
    refine lv_tableIn (tgt := 51) hx hb dX12_many_1 (by decide) (by decide) rfl (by decide) ?_
    refine lv_aload_n hx hb dX12_many_51 rfl (lv_at hl 0 rfl) ?_
    refine r_get kc_12 0 X hP (by decide) (L_ref _) (by decide) rfl wt_5_172 dX12_many_52 ?_
    refine lv_iconst (v := 5) hx hb dX12_many_55 (by decide) ?_
    refine r_iald X hP (by decide) (Lr_1 _) (vpc (by decide)) ixc_5 dX12_many_56 ?_
    exact r_iret X hP hS dX12_many_57 h
  have h := ifn c_2 h
  by_cases c_3 : a1 = 2
  · have h := ifp c_3 h
    refine lv_ren c_3.symm ?_
    refine lv_tableIn (tgt := 58) hx hb dX12_many_1 (by decide) (by decide) rfl (by decide) ?_
    refine lv_aload_n hx hb dX12_many_58 rfl (lv_at hl 0 rfl) ?_
    obtain ⟨r_4, m_5, hc_6, h⟩ := bd_some h
    refine c_V (rest := []) X hP hS (tX12_noneLeft hI  hc_6) (by decide) (L_ref _) rfl wt_6_151 wt_6_153 ws_3_3 wt_1_13 wt_6_154 ⟨rfl, hy_X12_noneLeft⟩ ⟨rfl, rfl⟩ ⟨Nat.le_of_ble_eq_true rfl, Nat.le_of_ble_eq_true rfl⟩ rfl hl.1 rfl (Nat.le_of_ble_eq_true rfl) dX12_many_59 rfl (fun H locs hP hS => ?_)
    obtain ⟨r_7, m_8, hc_9, h⟩ := bd_some h
    refine c_S (rest := []) X hP hS (tX12_size hI  hc_9) wt_8_58 wt_8_59 wt_1_13 wt_8_60 hy_X12_size ⟨rfl, rfl⟩ ⟨Nat.le_of_ble_eq_true rfl, Nat.le_of_ble_eq_true rfl⟩ rfl hl.1 rfl (Nat.le_of_ble_eq_true rfl) dX12_many_62 rfl (fun H locs hP hS => ?_)
    exact r_iret X hP hS dX12_many_65 h
  have h := ifn c_3 h
  by_cases c_10 : a1 = 3
  · have h := ifp c_10 h
    refine lv_ren c_10.symm ?_
    refine lv_tableIn (tgt := 66) hx hb dX12_many_1 (by decide) (by decide) rfl (by decide) ?_
    refine lv_aload_n hx hb dX12_many_66 rfl (lv_at hl 0 rfl) ?_
    refine r_get kc_12 0 X hP (by decide) (L_ref _) (by decide) rfl wt_5_172 dX12_many_67 ?_
    refine lv_bipush (v := 6) hx hb dX12_many_70 (by decide) ?_
    refine r_iald X hP (by decide) (Lr_1 _) (vpc (by decide)) ixc_6 dX12_many_72 ?_
    exact r_iret X hP hS dX12_many_73 h
  have h := ifn c_10 h
  by_cases c_11 : a1 = 4
  · have h := ifp c_11 h
    refine lv_ren c_11.symm ?_
    refine lv_tableIn (tgt := 74) hx hb dX12_many_1 (by decide) (by decide) rfl (by decide) ?_
    refine lv_aload_n hx hb dX12_many_74 rfl (lv_at hl 0 rfl) ?_
    refine r_get kc_12 26 X hP (by decide) (L_ref _) (by decide) rfl wt_5_198 dX12_many_75 ?_
    exact r_iret X hP hS dX12_many_78 h
  have h := ifn c_11 h
  by_cases c_12 : a1 = 5
  · have h := ifp c_12 h
    refine lv_ren c_12.symm ?_
    refine lv_tableIn (tgt := 79) hx hb dX12_many_1 (by decide) (by decide) rfl (by decide) ?_
    refine lv_aload_n hx hb dX12_many_79 rfl (lv_at hl 0 rfl) ?_
    refine r_get kc_12 5 X hP (by decide) (L_ref _) (by decide) rfl wt_5_177 dX12_many_80 ?_
    exact r_iret X hP hS dX12_many_83 h
  have h := ifn c_12 h
  by_cases c_13 : a1 = 6
  · have h := ifp c_13 h
    refine lv_ren c_13.symm ?_
    refine lv_tableIn (tgt := 84) hx hb dX12_many_1 (by decide) (by decide) rfl (by decide) ?_
    refine lv_aload_n hx hb dX12_many_84 rfl (lv_at hl 0 rfl) ?_
    refine r_get kc_12 34 X hP (by decide) (L_ref _) (by decide) rfl wt_5_206 dX12_many_85 ?_
    exact r_iret X hP hS dX12_many_88 h
  have h := ifn c_13 h
  refine lv_tableOut (tgt := 89) hx hb dX12_many_1 (by have q1000 : a1.toInt ≠ 0 := fun q => c_1 (Int32.toInt_inj.mp (q.trans (by decide)));  have q1001 : a1.toInt ≠ 1 := fun q => c_2 (Int32.toInt_inj.mp (q.trans (by decide)));  have q1002 : a1.toInt ≠ 2 := fun q => c_3 (Int32.toInt_inj.mp (q.trans (by decide)));  have q1003 : a1.toInt ≠ 3 := fun q => c_10 (Int32.toInt_inj.mp (q.trans (by decide)));  have q1004 : a1.toInt ≠ 4 := fun q => c_11 (Int32.toInt_inj.mp (q.trans (by decide)));  have q1005 : a1.toInt ≠ 5 := fun q => c_12 (Int32.toInt_inj.mp (q.trans (by decide)));  have q1006 : a1.toInt ≠ 6 := fun q => c_13 (Int32.toInt_inj.mp (q.trans (by decide)));  omega) (by decide) ?_
  refine lv_iconst (v := (-1)) hx hb dX12_many_89 (by decide) ?_
  exact r_iret X hP hS dX12_many_90 h

def fX12_keep_2  : Nat → Int32 → Mm → Option (Int32 × Mm)
  | 0, _, _ => none
  | n + 1, x1, m => (if (553 : Int32) ≤ x1 then lt (up m 0 2 1) fun m_2 => some (1, m_2) else gx x1 553 (lt (up m 2 (ix x1) (m 1 (ix x1))) fun m_5 => lt ((x1 : Int32) + 1) fun x1_7 => (fX12_keep_2 n x1_7 m_5)))
set_option maxHeartbeats 4000000 in
set_option maxRecDepth 100000 in
theorem tX12_keep_2 (hI : InjA rN A)  {r : Int32} {m' : Mm} (X : CX rLay rN D cA A p s m0 args meth c "BenchTowelsModel" cX12_keep 2 (some .int)) : ∀ (n : Nat) (x1 : Int32) (m : Mm) (H : Heap) (locs : List Loc) (ls : Array Slot), fX12_keep_2 n x1 m = some (r, m') → va_P D vwCl (wsOf rLay rN cA A m) H → va_S (AW rN A) s.heap H locs → lv_has ls 2 [(0, .ref (A 0)), (1, .int x1)] → W p l e { frames := 0, cells := 0, slots := 0, locals := 0 } s m0 args below meth c H locs 0 0 (ZR below args s rLay rN D cA A (some (.int r)) m') (F0 m0 2 ls []) := by
  have hx := X.1
  have hb := X.2.1
  have hml := X.2.2.1
  have hown := X.2.2.2.1
  have hts := X.2.2.2.2.1
  have hF := X.2.2.2.2.2.2.2.2.1
  intro n
  induction n with
  | zero =>
    intro x1 m H locs ls h hP hS hl
    exact absurd h (by rewrite [fX12_keep_2]; exact fun q => by cases q)
  | succ n ih =>
    intro x1 m H locs ls h hP hS hl
    rewrite [fX12_keep_2] at h
    refine lv_iload_n hx hb dX12_keep_2 rfl (lv_at hl 1 rfl) ?_
    refine lv_sipush (v := 553) hx hb dX12_keep_3 (by decide) ?_
    refine lv_icmp_ge (tgt := 27) hx hb dX12_keep_6 (by decide) (fun c_1 => ?_) (fun c_1 => ?_)
    · have h := ifp c_1 h
      refine lv_aload_n hx hb dX12_keep_27 rfl (lv_at hl 0 rfl) ?_
      refine lv_iconst (v := 1) hx hb dX12_keep_28 (by decide) ?_
      obtain ⟨m_2, em_3, h⟩ := lt_some h
      refine r_putz kc_12 2 X (Or.inr rfl) hP hS (by decide) (L_ref _) (L_ref _) (by decide) wt_5_174 rfl (by decide +kernel) (Nat.le_of_ble_eq_true rfl) dX12_keep_29 em_3 (fun H locs hP hS => ?_)
      refine lv_iconst (v := 1) hx hb dX12_keep_32 (by decide) ?_
      exact r_iret X hP hS dX12_keep_33 h
    · have h := ifn c_1 h
      refine lv_aload_n hx hb dX12_keep_9 rfl (lv_at hl 0 rfl) ?_
      refine r_get kc_12 1 X hP (by decide) (L_ref _) (by decide) rfl wt_5_173 dX12_keep_10 ?_
      refine lv_iload_n hx hb dX12_keep_13 rfl (lv_at hl 1 rfl) ?_
      refine lv_aload_n hx hb dX12_keep_14 rfl (lv_at hl 0 rfl) ?_
      refine r_get kc_12 0 X hP (by decide) (L_ref _) (by decide) rfl wt_5_172 dX12_keep_15 ?_
      refine lv_iload_n hx hb dX12_keep_18 rfl (lv_at hl 1 rfl) ?_
      obtain ⟨hin_4, h⟩ := gx_some h
      refine r_iald X hP (by decide) (Lr_1 _) hin_4 rfl dX12_keep_19 ?_
      obtain ⟨m_5, em_6, h⟩ := lt_some h
      refine r_iast X hP hS (by decide) Lr_2 hin_4 rfl dX12_keep_20 em_6 (fun H locs hP hS => ?_)
      obtain ⟨x1_7, ex_8, h⟩ := lt_some h
      refine lv_iinc (v := x1_7) (lv' := [(1, .int x1_7), (0, .ref (A 0))]) hx hb dX12_keep_21 hl (k := 1) rfl (by rw [ex_8]; rfl) (by decide) rfl (fun ls hl => ?_)
      refine lv_goto (tgt := 2) hx hb dX12_keep_24 (by decide) ?_
      exact ih x1_7 m_5 _ _ _  h hP hS (lv_sub hl [1, 0] rfl)

def fX12_keep  (m : Mm) : Option (Int32 × Mm) := (fX12_keep_2  FL 0 m)
set_option maxHeartbeats 4000000 in
set_option maxRecDepth 100000 in
theorem tX12_keep {l : Launch} {D : va_G} {cA : Nat → ClassId} {A : Nat → Nat} (hI : InjA rN A) {m m' : Mm} {r : Int32} (h : fX12_keep m = some (r, m')) : Met0 l yX12_keep cX12_keep 2 (some .int) { frames := 0, cells := 0, slots := 0, locals := 0 } rLay rN D cA A [.ref (A 0)] m (some (.int r)) m' := by
  refine met0_of (by decide) (Nat.le_of_ble_eq_true rfl) hI ?_
  intro p e s m0 below meth c ls X hinit hP hS hl
  generalize ([.ref (A 0)] : List Value).toArray = args at X ⊢
  have hl : lv_has ls 2 [(0, .ref (A 0))] := hl
  have X : CX rLay rN D cA A p s m0 args meth c "BenchTowelsModel" cX12_keep 2 (some .int) := X
  have hx := X.1
  have hb := X.2.1
  have hml := X.2.2.1
  have hown := X.2.2.2.1
  have hts := X.2.2.2.2.1
  have hF := X.2.2.2.2.2.2.2.2.1
  rewrite [fX12_keep] at h
  refine lv_iconst (v := 0) hx hb dX12_keep_0 (by decide) ?_
  refine lv_istore_n (lv' := [(1, .int 0), (0, .ref (A 0))]) hx hb dX12_keep_1 rfl hl (by decide) rfl (fun ls hl => ?_)
  exact tX12_keep_2 hI    X FL 0 m _ _ _  h hP hS (lv_sub hl [1, 0] rfl)

def fX12_again_12  : Nat → Int32 → Mm → Option (Int32 × Mm)
  | 0, _, _ => none
  | n + 1, x1, m => (if (553 : Int32) ≤ x1 then some ((m 1 0), m) else gx x1 553 (lt (up m 1 (ix x1) (m 2 (ix x1))) fun m_4 => lt ((x1 : Int32) + 1) fun x1_6 => (fX12_again_12 n x1_6 m_4)))
set_option maxHeartbeats 4000000 in
set_option maxRecDepth 100000 in
theorem tX12_again_12 (hI : InjA rN A)  {r : Int32} {m' : Mm} (X : CX rLay rN D cA A p s m0 args meth c "BenchTowelsModel" cX12_again 2 (some .int)) : ∀ (n : Nat) (x1 : Int32) (m : Mm) (H : Heap) (locs : List Loc) (ls : Array Slot), fX12_again_12 n x1 m = some (r, m') → va_P D vwCl (wsOf rLay rN cA A m) H → va_S (AW rN A) s.heap H locs → lv_has ls 2 [(0, .ref (A 0)), (1, .int x1)] → W p l e { frames := 0, cells := 0, slots := 0, locals := 0 } s m0 args below meth c H locs 0 0 (ZR below args s rLay rN D cA A (some (.int r)) m') (F0 m0 12 ls []) := by
  have hx := X.1
  have hb := X.2.1
  have hml := X.2.2.1
  have hown := X.2.2.2.1
  have hts := X.2.2.2.2.1
  have hF := X.2.2.2.2.2.2.2.2.1
  intro n
  induction n with
  | zero =>
    intro x1 m H locs ls h hP hS hl
    exact absurd h (by rewrite [fX12_again_12]; exact fun q => by cases q)
  | succ n ih =>
    intro x1 m H locs ls h hP hS hl
    rewrite [fX12_again_12] at h
    refine lv_iload_n hx hb dX12_again_12 rfl (lv_at hl 1 rfl) ?_
    refine lv_sipush (v := 553) hx hb dX12_again_13 (by decide) ?_
    refine lv_icmp_ge (tgt := 37) hx hb dX12_again_16 (by decide) (fun c_2 => ?_) (fun c_2 => ?_)
    · have h := ifp c_2 h
      refine lv_aload_n hx hb dX12_again_37 rfl (lv_at hl 0 rfl) ?_
      refine r_get kc_12 0 X hP (by decide) (L_ref _) (by decide) rfl wt_5_172 dX12_again_38 ?_
      refine lv_iconst (v := 0) hx hb dX12_again_41 (by decide) ?_
      refine r_iald X hP (by decide) (Lr_1 _) (vpc (by decide)) ixc_0 dX12_again_42 ?_
      exact r_iret X hP hS dX12_again_43 h
    · have h := ifn c_2 h
      refine lv_aload_n hx hb dX12_again_19 rfl (lv_at hl 0 rfl) ?_
      refine r_get kc_12 0 X hP (by decide) (L_ref _) (by decide) rfl wt_5_172 dX12_again_20 ?_
      refine lv_iload_n hx hb dX12_again_23 rfl (lv_at hl 1 rfl) ?_
      refine lv_aload_n hx hb dX12_again_24 rfl (lv_at hl 0 rfl) ?_
      refine r_get kc_12 1 X hP (by decide) (L_ref _) (by decide) rfl wt_5_173 dX12_again_25 ?_
      refine lv_iload_n hx hb dX12_again_28 rfl (lv_at hl 1 rfl) ?_
      obtain ⟨hin_3, h⟩ := gx_some h
      refine r_iald X hP (by decide) (Lr_2 _) hin_3 rfl dX12_again_29 ?_
      obtain ⟨m_4, em_5, h⟩ := lt_some h
      refine r_iast X hP hS (by decide) Lr_1 hin_3 rfl dX12_again_30 em_5 (fun H locs hP hS => ?_)
      obtain ⟨x1_6, ex_7, h⟩ := lt_some h
      refine lv_iinc (v := x1_6) (lv' := [(1, .int x1_6), (0, .ref (A 0))]) hx hb dX12_again_31 hl (k := 1) rfl (by rw [ex_7]; rfl) (by decide) rfl (fun ls hl => ?_)
      refine lv_goto (tgt := 12) hx hb dX12_again_34 (by decide) ?_
      exact ih x1_6 m_4 _ _ _  h hP hS (lv_sub hl [1, 0] rfl)

def fX12_again  (m : Mm) : Option (Int32 × Mm) := (if (m 0 2) = 0 then some ((-3), m) else (fX12_again_12  FL 0 m))
set_option maxHeartbeats 4000000 in
set_option maxRecDepth 100000 in
theorem tX12_again {l : Launch} {D : va_G} {cA : Nat → ClassId} {A : Nat → Nat} (hI : InjA rN A) {m m' : Mm} {r : Int32} (h : fX12_again m = some (r, m')) : Met0 l yX12_again cX12_again 2 (some .int) { frames := 0, cells := 0, slots := 0, locals := 0 } rLay rN D cA A [.ref (A 0)] m (some (.int r)) m' := by
  refine met0_of (by decide) (Nat.le_of_ble_eq_true rfl) hI ?_
  intro p e s m0 below meth c ls X hinit hP hS hl
  generalize ([.ref (A 0)] : List Value).toArray = args at X ⊢
  have hl : lv_has ls 2 [(0, .ref (A 0))] := hl
  have X : CX rLay rN D cA A p s m0 args meth c "BenchTowelsModel" cX12_again 2 (some .int) := X
  have hx := X.1
  have hb := X.2.1
  have hml := X.2.2.1
  have hown := X.2.2.2.1
  have hts := X.2.2.2.2.1
  have hF := X.2.2.2.2.2.2.2.2.1
  rewrite [fX12_again] at h
  refine lv_aload_n hx hb dX12_again_0 rfl (lv_at hl 0 rfl) ?_
  refine r_get kc_12 2 X hP (by decide) (L_ref _) (by decide) rfl wt_5_174 dX12_again_1 ?_
  refine lv_if_ne (tgt := 10) hx hb dX12_again_4 (by decide) (fun c_1 => ?_) (fun c_1 => ?_)
  · have h := ifn c_1 h
    refine lv_iconst (v := 0) hx hb dX12_again_10 (by decide) ?_
    refine lv_istore_n (lv' := [(1, .int 0), (0, .ref (A 0))]) hx hb dX12_again_11 rfl hl (by decide) rfl (fun ls hl => ?_)
    exact tX12_again_12 hI    X FL 0 m _ _ _  h hP hS (lv_sub hl [1, 0] rfl)
  · have h := ifp c_1 h
    refine lv_bipush (v := (-3)) hx hb dX12_again_7 (by decide) ?_
    exact r_iret X hP hS dX12_again_9 h

end
