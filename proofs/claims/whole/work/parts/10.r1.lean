-- the reference's methods walked, by program (wip/whole/gen)
section
variable {p : Program} {l : Launch} {e : Env} {s : State} {m0 : MethodId} {args : Array Value} {below : List Frame} {meth : Method} {c : Code} {D : va_G} {cA : Nat → ClassId} {A : Nat → Nat}
def fX12_isSame (a1 : Int32) (a2 : Int32) (a3 : Int32) (a4 : Int32) (m : Mm) : Option (Int32 × Mm) := bd (fX12_byteAt ((m 0 7) + a1) m) fun r_1 m_2 => (if r_1 = a2 then bd (fX12_byteAt (((m_2 0 7) + a1) + 1) m_2) fun r_5 m_6 => (if r_5 = a3 then bd (fX12_byteAt (((m_6 0 7) + a1) + 2) m_6) fun r_9 m_10 => (if r_9 = a4 then some (1, m_10) else some (0, m_10)) else some (0, m_6)) else some (0, m_2))
set_option maxHeartbeats 4000000 in
set_option maxRecDepth 100000 in
theorem tX12_isSame {l : Launch} {D : va_G} {cA : Nat → ClassId} {A : Nat → Nat} (hI : InjA rN A) {a1 : Int32} {a2 : Int32} {a3 : Int32} {a4 : Int32} {m m' : Mm} {r : Int32} (h : fX12_isSame a1 a2 a3 a4 m = some (r, m')) : Met0 l yX12_isSame cX12_isSame 5 (some .boolean) { frames := 1, cells := 0, slots := 0, locals := 21 } rLay rN D cA A [.ref (A 0), .int a1, .int a2, .int a3, .int a4] m (some (.int r)) m' := by
  refine met0_of (by decide) (Nat.le_of_ble_eq_true rfl) hI ?_
  intro p e s m0 below meth c ls X hinit hP hS hl
  generalize ([.ref (A 0), .int a1, .int a2, .int a3, .int a4] : List Value).toArray = args at X ⊢
  have hl : lv_has ls 5 [(0, .ref (A 0)), (1, .int a1), (2, .int a2), (3, .int a3), (4, .int a4)] := hl
  have X : CX rLay rN D cA A p s m0 args meth c "BenchTowelsModel" cX12_isSame 5 (some .boolean) := X
  have hx := X.1
  have hb := X.2.1
  have hml := X.2.2.1
  have hown := X.2.2.2.1
  have hts := X.2.2.2.2.1
  have hF := X.2.2.2.2.2.2.2.2.1
  rewrite [fX12_isSame] at h
  refine lv_aload_n hx hb dX12_isSame_0 rfl (lv_at hl 0 rfl) ?_
  refine lv_aload_n hx hb dX12_isSame_1 rfl (lv_at hl 0 rfl) ?_
  refine r_get kc_12 7 X hP (by decide) (L_ref _) (by decide) rfl wt_5_179 dX12_isSame_2 ?_
  refine lv_iload_n hx hb dX12_isSame_5 rfl (lv_at hl 1 rfl) ?_
  refine lv_iadd hx hb dX12_isSame_6 ?_
  obtain ⟨r_1, m_2, hc_3, h⟩ := bd_some h
  refine c_V (rest := []) X hP hS (tX12_byteAt hI  hc_3) (by decide) (L_ref _) rfl wt_6_168 wt_6_170 ws_3_5 wt_1_13 wt_6_171 ⟨rfl, hy_X12_byteAt⟩ ⟨rfl, rfl⟩ ⟨Nat.le_of_ble_eq_true rfl, Nat.le_of_ble_eq_true rfl⟩ rfl hl.1 rfl (Nat.le_of_ble_eq_true rfl) dX12_isSame_7 rfl (fun H locs hP hS => ?_)
  refine lv_iload_n hx hb dX12_isSame_10 rfl (lv_at hl 2 rfl) ?_
  refine lv_icmp_ne (tgt := 51) hx hb dX12_isSame_11 (by decide) (fun c_4 => ?_) (fun c_4 => ?_)
  · have h := ifn c_4 h
    refine lv_iconst (v := 0) hx hb dX12_isSame_51 (by decide) ?_
    exact r_zret X (Or.inl rfl) hP hS dX12_isSame_52 h
  · have h := ifp c_4 h
    refine lv_aload_n hx hb dX12_isSame_14 rfl (lv_at hl 0 rfl) ?_
    refine lv_aload_n hx hb dX12_isSame_15 rfl (lv_at hl 0 rfl) ?_
    refine r_get kc_12 7 X hP (by decide) (L_ref _) (by decide) rfl wt_5_179 dX12_isSame_16 ?_
    refine lv_iload_n hx hb dX12_isSame_19 rfl (lv_at hl 1 rfl) ?_
    refine lv_iadd hx hb dX12_isSame_20 ?_
    refine lv_iconst (v := 1) hx hb dX12_isSame_21 (by decide) ?_
    refine lv_iadd hx hb dX12_isSame_22 ?_
    obtain ⟨r_5, m_6, hc_7, h⟩ := bd_some h
    refine c_V (rest := []) X hP hS (tX12_byteAt hI  hc_7) (by decide) (L_ref _) rfl wt_6_168 wt_6_170 ws_3_5 wt_1_13 wt_6_171 ⟨rfl, hy_X12_byteAt⟩ ⟨rfl, rfl⟩ ⟨Nat.le_of_ble_eq_true rfl, Nat.le_of_ble_eq_true rfl⟩ rfl hl.1 rfl (Nat.le_of_ble_eq_true rfl) dX12_isSame_23 rfl (fun H locs hP hS => ?_)
    refine lv_iload_n hx hb dX12_isSame_26 rfl (lv_at hl 3 rfl) ?_
    refine lv_icmp_ne (tgt := 51) hx hb dX12_isSame_27 (by decide) (fun c_8 => ?_) (fun c_8 => ?_)
    · have h := ifn c_8 h
      refine lv_iconst (v := 0) hx hb dX12_isSame_51 (by decide) ?_
      exact r_zret X (Or.inl rfl) hP hS dX12_isSame_52 h
    · have h := ifp c_8 h
      refine lv_aload_n hx hb dX12_isSame_30 rfl (lv_at hl 0 rfl) ?_
      refine lv_aload_n hx hb dX12_isSame_31 rfl (lv_at hl 0 rfl) ?_
      refine r_get kc_12 7 X hP (by decide) (L_ref _) (by decide) rfl wt_5_179 dX12_isSame_32 ?_
      refine lv_iload_n hx hb dX12_isSame_35 rfl (lv_at hl 1 rfl) ?_
      refine lv_iadd hx hb dX12_isSame_36 ?_
      refine lv_iconst (v := 2) hx hb dX12_isSame_37 (by decide) ?_
      refine lv_iadd hx hb dX12_isSame_38 ?_
      obtain ⟨r_9, m_10, hc_11, h⟩ := bd_some h
      refine c_V (rest := []) X hP hS (tX12_byteAt hI  hc_11) (by decide) (L_ref _) rfl wt_6_168 wt_6_170 ws_3_5 wt_1_13 wt_6_171 ⟨rfl, hy_X12_byteAt⟩ ⟨rfl, rfl⟩ ⟨Nat.le_of_ble_eq_true rfl, Nat.le_of_ble_eq_true rfl⟩ rfl hl.1 rfl (Nat.le_of_ble_eq_true rfl) dX12_isSame_39 rfl (fun H locs hP hS => ?_)
      refine lv_iload hx hb dX12_isSame_42 (lv_at hl 4 rfl) ?_
      refine lv_icmp_ne (tgt := 51) hx hb dX12_isSame_44 (by decide) (fun c_12 => ?_) (fun c_12 => ?_)
      · have h := ifn c_12 h
        refine lv_iconst (v := 0) hx hb dX12_isSame_51 (by decide) ?_
        exact r_zret X (Or.inl rfl) hP hS dX12_isSame_52 h
      · have h := ifp c_12 h
        refine lv_iconst (v := 1) hx hb dX12_isSame_47 (by decide) ?_
        refine lv_goto (tgt := 52) hx hb dX12_isSame_48 (by decide) ?_
        exact r_zret X (Or.inr rfl) hP hS dX12_isSame_52 h

def fX12_kindHere_117   (m : Mm) : Option (Int32 × Mm) := bd (fX12_isName (4 : Int32) (104 : Int32) (101 : Int32) (108 : Int32) (100 : Int32) m) fun r_17 m_18 => (if r_17 = 0 then bd (fX12_isName (7 : Int32) (117 : Int32) (110 : Int32) (97 : Int32) (100 : Int32) m_18) fun r_21 m_22 => (if r_21 = 0 then some ((-1), m_22) else bd (fX12_isSame (3 : Int32) (115 : Int32) (107 : Int32) (101 : Int32) m_22) fun r_25 m_26 => (if r_25 = 0 then some ((-1), m_26) else some (5, m_26))) else some (4, m_18))
set_option maxHeartbeats 4000000 in
set_option maxRecDepth 100000 in
theorem tX12_kindHere_117 (hI : InjA rN A)  {r : Int32} {m' : Mm} (X : CX rLay rN D cA A p s m0 args meth c "BenchTowelsModel" cX12_kindHere 1 (some .int)) : ∀  (m : Mm) (H : Heap) (locs : List Loc) (ls : Array Slot), fX12_kindHere_117  m = some (r, m') → va_P D vwCl (wsOf rLay rN cA A m) H → va_S (AW rN A) s.heap H locs → lv_has ls 1 [(0, .ref (A 0))] → W p l e { frames := 2, cells := 0, slots := 0, locals := 46 } s m0 args below meth c H locs 0 0 (ZR below args s rLay rN D cA A (some (.int r)) m') (F0 m0 117 ls []) := by
  have hx := X.1
  have hb := X.2.1
  have hml := X.2.2.1
  have hown := X.2.2.2.1
  have hts := X.2.2.2.2.1
  have hF := X.2.2.2.2.2.2.2.2.1
  intro m H locs ls h hP hS hl
  rewrite [fX12_kindHere_117] at h
  refine lv_aload_n hx hb dX12_kindHere_117 rfl (lv_at hl 0 rfl) ?_
  refine lv_iconst (v := 4) hx hb dX12_kindHere_118 (by decide) ?_
  refine lv_bipush (v := 104) hx hb dX12_kindHere_119 (by decide) ?_
  refine lv_bipush (v := 101) hx hb dX12_kindHere_121 (by decide) ?_
  refine lv_bipush (v := 108) hx hb dX12_kindHere_123 (by decide) ?_
  refine lv_bipush (v := 100) hx hb dX12_kindHere_125 (by decide) ?_
  obtain ⟨r_17, m_18, hc_19, h⟩ := bd_some h
  refine c_V (rest := []) X hP hS (tX12_isName hI  hc_19) (by decide) (L_ref _) rfl wt_6_186 wt_6_188 ws_3_8 wt_1_13 wt_6_189 ⟨rfl, hy_X12_isName⟩ ⟨rfl, rfl⟩ ⟨Nat.le_of_ble_eq_true rfl, Nat.le_of_ble_eq_true rfl⟩ rfl hl.1 rfl (Nat.le_of_ble_eq_true rfl) dX12_kindHere_127 rfl (fun H locs hP hS => ?_)
  refine lv_if_eq (tgt := 135) hx hb dX12_kindHere_130 (by decide) (fun c_20 => ?_) (fun c_20 => ?_)
  · have h := ifp c_20 h
    refine lv_aload_n hx hb dX12_kindHere_135 rfl (lv_at hl 0 rfl) ?_
    refine lv_bipush (v := 7) hx hb dX12_kindHere_136 (by decide) ?_
    refine lv_bipush (v := 117) hx hb dX12_kindHere_138 (by decide) ?_
    refine lv_bipush (v := 110) hx hb dX12_kindHere_140 (by decide) ?_
    refine lv_bipush (v := 97) hx hb dX12_kindHere_142 (by decide) ?_
    refine lv_bipush (v := 100) hx hb dX12_kindHere_144 (by decide) ?_
    obtain ⟨r_21, m_22, hc_23, h⟩ := bd_some h
    refine c_V (rest := []) X hP hS (tX12_isName hI  hc_23) (by decide) (L_ref _) rfl wt_6_186 wt_6_188 ws_3_8 wt_1_13 wt_6_189 ⟨rfl, hy_X12_isName⟩ ⟨rfl, rfl⟩ ⟨Nat.le_of_ble_eq_true rfl, Nat.le_of_ble_eq_true rfl⟩ rfl hl.1 rfl (Nat.le_of_ble_eq_true rfl) dX12_kindHere_146 rfl (fun H locs hP hS => ?_)
    refine lv_if_eq (tgt := 170) hx hb dX12_kindHere_149 (by decide) (fun c_24 => ?_) (fun c_24 => ?_)
    · have h := ifp c_24 h
      refine lv_iconst (v := (-1)) hx hb dX12_kindHere_170 (by decide) ?_
      exact r_iret X hP hS dX12_kindHere_171 h
    · have h := ifn c_24 h
      refine lv_aload_n hx hb dX12_kindHere_152 rfl (lv_at hl 0 rfl) ?_
      refine lv_iconst (v := 3) hx hb dX12_kindHere_153 (by decide) ?_
      refine lv_bipush (v := 115) hx hb dX12_kindHere_154 (by decide) ?_
      refine lv_bipush (v := 107) hx hb dX12_kindHere_156 (by decide) ?_
      refine lv_bipush (v := 101) hx hb dX12_kindHere_158 (by decide) ?_
      obtain ⟨r_25, m_26, hc_27, h⟩ := bd_some h
      refine c_V (rest := []) X hP hS (tX12_isSame hI  hc_27) (by decide) (L_ref _) rfl wt_6_190 wt_6_192 ws_3_9 wt_1_13 wt_6_193 ⟨rfl, hy_X12_isSame⟩ ⟨rfl, rfl⟩ ⟨Nat.le_of_ble_eq_true rfl, Nat.le_of_ble_eq_true rfl⟩ rfl hl.1 rfl (Nat.le_of_ble_eq_true rfl) dX12_kindHere_160 rfl (fun H locs hP hS => ?_)
      refine lv_if_eq (tgt := 170) hx hb dX12_kindHere_163 (by decide) (fun c_28 => ?_) (fun c_28 => ?_)
      · have h := ifp c_28 h
        refine lv_iconst (v := (-1)) hx hb dX12_kindHere_170 (by decide) ?_
        exact r_iret X hP hS dX12_kindHere_171 h
      · have h := ifn c_28 h
        refine lv_iconst (v := 5) hx hb dX12_kindHere_166 (by decide) ?_
        refine lv_goto (tgt := 171) hx hb dX12_kindHere_167 (by decide) ?_
        exact r_iret X hP hS dX12_kindHere_171 h
  · have h := ifn c_20 h
    refine lv_iconst (v := 4) hx hb dX12_kindHere_133 (by decide) ?_
    exact r_iret X hP hS dX12_kindHere_134 h

def fX12_kindHere_84   (m : Mm) : Option (Int32 × Mm) := bd (fX12_isName (6 : Int32) (112 : Int32) (97 : Int32) (105 : Int32) (100 : Int32) m) fun r_13 m_14 => (if r_13 = 0 then fX12_kindHere_117  m_14 else bd (fX12_isSame (2 : Int32) (105 : Int32) (114 : Int32) (101 : Int32) m_14) fun r_29 m_30 => (if r_29 = 0 then fX12_kindHere_117  m_30 else some (3, m_30)))
set_option maxHeartbeats 4000000 in
set_option maxRecDepth 100000 in
theorem tX12_kindHere_84 (hI : InjA rN A)  {r : Int32} {m' : Mm} (X : CX rLay rN D cA A p s m0 args meth c "BenchTowelsModel" cX12_kindHere 1 (some .int)) : ∀  (m : Mm) (H : Heap) (locs : List Loc) (ls : Array Slot), fX12_kindHere_84  m = some (r, m') → va_P D vwCl (wsOf rLay rN cA A m) H → va_S (AW rN A) s.heap H locs → lv_has ls 1 [(0, .ref (A 0))] → W p l e { frames := 2, cells := 0, slots := 0, locals := 46 } s m0 args below meth c H locs 0 0 (ZR below args s rLay rN D cA A (some (.int r)) m') (F0 m0 84 ls []) := by
  have hx := X.1
  have hb := X.2.1
  have hml := X.2.2.1
  have hown := X.2.2.2.1
  have hts := X.2.2.2.2.1
  have hF := X.2.2.2.2.2.2.2.2.1
  intro m H locs ls h hP hS hl
  rewrite [fX12_kindHere_84] at h
  refine lv_aload_n hx hb dX12_kindHere_84 rfl (lv_at hl 0 rfl) ?_
  refine lv_bipush (v := 6) hx hb dX12_kindHere_85 (by decide) ?_
  refine lv_bipush (v := 112) hx hb dX12_kindHere_87 (by decide) ?_
  refine lv_bipush (v := 97) hx hb dX12_kindHere_89 (by decide) ?_
  refine lv_bipush (v := 105) hx hb dX12_kindHere_91 (by decide) ?_
  refine lv_bipush (v := 100) hx hb dX12_kindHere_93 (by decide) ?_
  obtain ⟨r_13, m_14, hc_15, h⟩ := bd_some h
  refine c_V (rest := []) X hP hS (tX12_isName hI  hc_15) (by decide) (L_ref _) rfl wt_6_186 wt_6_188 ws_3_8 wt_1_13 wt_6_189 ⟨rfl, hy_X12_isName⟩ ⟨rfl, rfl⟩ ⟨Nat.le_of_ble_eq_true rfl, Nat.le_of_ble_eq_true rfl⟩ rfl hl.1 rfl (Nat.le_of_ble_eq_true rfl) dX12_kindHere_95 rfl (fun H locs hP hS => ?_)
  refine lv_if_eq (tgt := 117) hx hb dX12_kindHere_98 (by decide) (fun c_16 => ?_) (fun c_16 => ?_)
  · have h := ifp c_16 h
    exact tX12_kindHere_117 hI    X m_14 _ _ _  h hP hS (lv_sub hl [0] rfl)
  · have h := ifn c_16 h
    refine lv_aload_n hx hb dX12_kindHere_101 rfl (lv_at hl 0 rfl) ?_
    refine lv_iconst (v := 2) hx hb dX12_kindHere_102 (by decide) ?_
    refine lv_bipush (v := 105) hx hb dX12_kindHere_103 (by decide) ?_
    refine lv_bipush (v := 114) hx hb dX12_kindHere_105 (by decide) ?_
    refine lv_bipush (v := 101) hx hb dX12_kindHere_107 (by decide) ?_
    obtain ⟨r_29, m_30, hc_31, h⟩ := bd_some h
    refine c_V (rest := []) X hP hS (tX12_isSame hI  hc_31) (by decide) (L_ref _) rfl wt_6_190 wt_6_192 ws_3_9 wt_1_13 wt_6_193 ⟨rfl, hy_X12_isSame⟩ ⟨rfl, rfl⟩ ⟨Nat.le_of_ble_eq_true rfl, Nat.le_of_ble_eq_true rfl⟩ rfl hl.1 rfl (Nat.le_of_ble_eq_true rfl) dX12_kindHere_109 rfl (fun H locs hP hS => ?_)
    refine lv_if_eq (tgt := 117) hx hb dX12_kindHere_112 (by decide) (fun c_32 => ?_) (fun c_32 => ?_)
    · have h := ifp c_32 h
      exact tX12_kindHere_117 hI    X m_30 _ _ _  h hP hS (lv_sub hl [0] rfl)
    · have h := ifn c_32 h
      refine lv_iconst (v := 3) hx hb dX12_kindHere_115 (by decide) ?_
      exact r_iret X hP hS dX12_kindHere_116 h

def fX12_kindHere_51   (m : Mm) : Option (Int32 × Mm) := bd (fX12_isName (6 : Int32) (115 : Int32) (104 : Int32) (97 : Int32) (100 : Int32) m) fun r_9 m_10 => (if r_9 = 0 then fX12_kindHere_84  m_10 else bd (fX12_isSame (2 : Int32) (97 : Int32) (114 : Int32) (101 : Int32) m_10) fun r_33 m_34 => (if r_33 = 0 then fX12_kindHere_84  m_34 else some (2, m_34)))
set_option maxHeartbeats 4000000 in
set_option maxRecDepth 100000 in
theorem tX12_kindHere_51 (hI : InjA rN A)  {r : Int32} {m' : Mm} (X : CX rLay rN D cA A p s m0 args meth c "BenchTowelsModel" cX12_kindHere 1 (some .int)) : ∀  (m : Mm) (H : Heap) (locs : List Loc) (ls : Array Slot), fX12_kindHere_51  m = some (r, m') → va_P D vwCl (wsOf rLay rN cA A m) H → va_S (AW rN A) s.heap H locs → lv_has ls 1 [(0, .ref (A 0))] → W p l e { frames := 2, cells := 0, slots := 0, locals := 46 } s m0 args below meth c H locs 0 0 (ZR below args s rLay rN D cA A (some (.int r)) m') (F0 m0 51 ls []) := by
  have hx := X.1
  have hb := X.2.1
  have hml := X.2.2.1
  have hown := X.2.2.2.1
  have hts := X.2.2.2.2.1
  have hF := X.2.2.2.2.2.2.2.2.1
  intro m H locs ls h hP hS hl
  rewrite [fX12_kindHere_51] at h
  refine lv_aload_n hx hb dX12_kindHere_51 rfl (lv_at hl 0 rfl) ?_
  refine lv_bipush (v := 6) hx hb dX12_kindHere_52 (by decide) ?_
  refine lv_bipush (v := 115) hx hb dX12_kindHere_54 (by decide) ?_
  refine lv_bipush (v := 104) hx hb dX12_kindHere_56 (by decide) ?_
  refine lv_bipush (v := 97) hx hb dX12_kindHere_58 (by decide) ?_
  refine lv_bipush (v := 100) hx hb dX12_kindHere_60 (by decide) ?_
  obtain ⟨r_9, m_10, hc_11, h⟩ := bd_some h
  refine c_V (rest := []) X hP hS (tX12_isName hI  hc_11) (by decide) (L_ref _) rfl wt_6_186 wt_6_188 ws_3_8 wt_1_13 wt_6_189 ⟨rfl, hy_X12_isName⟩ ⟨rfl, rfl⟩ ⟨Nat.le_of_ble_eq_true rfl, Nat.le_of_ble_eq_true rfl⟩ rfl hl.1 rfl (Nat.le_of_ble_eq_true rfl) dX12_kindHere_62 rfl (fun H locs hP hS => ?_)
  refine lv_if_eq (tgt := 84) hx hb dX12_kindHere_65 (by decide) (fun c_12 => ?_) (fun c_12 => ?_)
  · have h := ifp c_12 h
    exact tX12_kindHere_84 hI    X m_10 _ _ _  h hP hS (lv_sub hl [0] rfl)
  · have h := ifn c_12 h
    refine lv_aload_n hx hb dX12_kindHere_68 rfl (lv_at hl 0 rfl) ?_
    refine lv_iconst (v := 2) hx hb dX12_kindHere_69 (by decide) ?_
    refine lv_bipush (v := 97) hx hb dX12_kindHere_70 (by decide) ?_
    refine lv_bipush (v := 114) hx hb dX12_kindHere_72 (by decide) ?_
    refine lv_bipush (v := 101) hx hb dX12_kindHere_74 (by decide) ?_
    obtain ⟨r_33, m_34, hc_35, h⟩ := bd_some h
    refine c_V (rest := []) X hP hS (tX12_isSame hI  hc_35) (by decide) (L_ref _) rfl wt_6_190 wt_6_192 ws_3_9 wt_1_13 wt_6_193 ⟨rfl, hy_X12_isSame⟩ ⟨rfl, rfl⟩ ⟨Nat.le_of_ble_eq_true rfl, Nat.le_of_ble_eq_true rfl⟩ rfl hl.1 rfl (Nat.le_of_ble_eq_true rfl) dX12_kindHere_76 rfl (fun H locs hP hS => ?_)
    refine lv_if_eq (tgt := 84) hx hb dX12_kindHere_79 (by decide) (fun c_36 => ?_) (fun c_36 => ?_)
    · have h := ifp c_36 h
      exact tX12_kindHere_84 hI    X m_34 _ _ _  h hP hS (lv_sub hl [0] rfl)
    · have h := ifn c_36 h
      refine lv_iconst (v := 2) hx hb dX12_kindHere_82 (by decide) ?_
      exact r_iret X hP hS dX12_kindHere_83 h

def fX12_kindHere  (m : Mm) : Option (Int32 × Mm) := bd (fX12_isName (3 : Int32) (115 : Int32) (101 : Int32) (116 : Int32) (116 : Int32) m) fun r_1 m_2 => (if r_1 = 0 then bd (fX12_isName (5 : Int32) (97 : Int32) (108 : Int32) (111 : Int32) (101 : Int32) m_2) fun r_5 m_6 => (if r_5 = 0 then fX12_kindHere_51  m_6 else bd (fX12_byteAt ((m_6 0 7) + 3) m_6) fun r_37 m_38 => (if r_37 = 110 then some (1, m_38) else fX12_kindHere_51  m_38)) else some (0, m_2))
set_option maxHeartbeats 4000000 in
set_option maxRecDepth 100000 in
theorem tX12_kindHere {l : Launch} {D : va_G} {cA : Nat → ClassId} {A : Nat → Nat} (hI : InjA rN A) {m m' : Mm} {r : Int32} (h : fX12_kindHere m = some (r, m')) : Met0 l yX12_kindHere cX12_kindHere 1 (some .int) { frames := 2, cells := 0, slots := 0, locals := 46 } rLay rN D cA A [.ref (A 0)] m (some (.int r)) m' := by
  refine met0_of (by decide) (Nat.le_of_ble_eq_true rfl) hI ?_
  intro p e s m0 below meth c ls X hinit hP hS hl
  generalize ([.ref (A 0)] : List Value).toArray = args at X ⊢
  have hl : lv_has ls 1 [(0, .ref (A 0))] := hl
  have X : CX rLay rN D cA A p s m0 args meth c "BenchTowelsModel" cX12_kindHere 1 (some .int) := X
  have hx := X.1
  have hb := X.2.1
  have hml := X.2.2.1
  have hown := X.2.2.2.1
  have hts := X.2.2.2.2.1
  have hF := X.2.2.2.2.2.2.2.2.1
  rewrite [fX12_kindHere] at h
  refine lv_aload_n hx hb dX12_kindHere_0 rfl (lv_at hl 0 rfl) ?_
  refine lv_iconst (v := 3) hx hb dX12_kindHere_1 (by decide) ?_
  refine lv_bipush (v := 115) hx hb dX12_kindHere_2 (by decide) ?_
  refine lv_bipush (v := 101) hx hb dX12_kindHere_4 (by decide) ?_
  refine lv_bipush (v := 116) hx hb dX12_kindHere_6 (by decide) ?_
  refine lv_bipush (v := 116) hx hb dX12_kindHere_8 (by decide) ?_
  obtain ⟨r_1, m_2, hc_3, h⟩ := bd_some h
  refine c_V (rest := []) X hP hS (tX12_isName hI  hc_3) (by decide) (L_ref _) rfl wt_6_186 wt_6_188 ws_3_8 wt_1_13 wt_6_189 ⟨rfl, hy_X12_isName⟩ ⟨rfl, rfl⟩ ⟨Nat.le_of_ble_eq_true rfl, Nat.le_of_ble_eq_true rfl⟩ rfl hl.1 rfl (Nat.le_of_ble_eq_true rfl) dX12_kindHere_10 rfl (fun H locs hP hS => ?_)
  refine lv_if_eq (tgt := 18) hx hb dX12_kindHere_13 (by decide) (fun c_4 => ?_) (fun c_4 => ?_)
  · have h := ifp c_4 h
    refine lv_aload_n hx hb dX12_kindHere_18 rfl (lv_at hl 0 rfl) ?_
    refine lv_iconst (v := 5) hx hb dX12_kindHere_19 (by decide) ?_
    refine lv_bipush (v := 97) hx hb dX12_kindHere_20 (by decide) ?_
    refine lv_bipush (v := 108) hx hb dX12_kindHere_22 (by decide) ?_
    refine lv_bipush (v := 111) hx hb dX12_kindHere_24 (by decide) ?_
    refine lv_bipush (v := 101) hx hb dX12_kindHere_26 (by decide) ?_
    obtain ⟨r_5, m_6, hc_7, h⟩ := bd_some h
    refine c_V (rest := []) X hP hS (tX12_isName hI  hc_7) (by decide) (L_ref _) rfl wt_6_186 wt_6_188 ws_3_8 wt_1_13 wt_6_189 ⟨rfl, hy_X12_isName⟩ ⟨rfl, rfl⟩ ⟨Nat.le_of_ble_eq_true rfl, Nat.le_of_ble_eq_true rfl⟩ rfl hl.1 rfl (Nat.le_of_ble_eq_true rfl) dX12_kindHere_28 rfl (fun H locs hP hS => ?_)
    refine lv_if_eq (tgt := 51) hx hb dX12_kindHere_31 (by decide) (fun c_8 => ?_) (fun c_8 => ?_)
    · have h := ifp c_8 h
      exact tX12_kindHere_51 hI    X m_6 _ _ _  h hP hS (lv_sub hl [0] rfl)
    · have h := ifn c_8 h
      refine lv_aload_n hx hb dX12_kindHere_34 rfl (lv_at hl 0 rfl) ?_
      refine lv_aload_n hx hb dX12_kindHere_35 rfl (lv_at hl 0 rfl) ?_
      refine r_get kc_12 7 X hP (by decide) (L_ref _) (by decide) rfl wt_5_179 dX12_kindHere_36 ?_
      refine lv_iconst (v := 3) hx hb dX12_kindHere_39 (by decide) ?_
      refine lv_iadd hx hb dX12_kindHere_40 ?_
      obtain ⟨r_37, m_38, hc_39, h⟩ := bd_some h
      refine c_V (rest := []) X hP hS (tX12_byteAt hI  hc_39) (by decide) (L_ref _) rfl wt_6_168 wt_6_170 ws_3_5 wt_1_13 wt_6_171 ⟨rfl, hy_X12_byteAt⟩ ⟨rfl, rfl⟩ ⟨Nat.le_of_ble_eq_true rfl, Nat.le_of_ble_eq_true rfl⟩ rfl hl.1 rfl (Nat.le_of_ble_eq_true rfl) dX12_kindHere_41 rfl (fun H locs hP hS => ?_)
      refine lv_bipush (v := 110) hx hb dX12_kindHere_44 (by decide) ?_
      refine lv_icmp_ne (tgt := 51) hx hb dX12_kindHere_46 (by decide) (fun c_40 => ?_) (fun c_40 => ?_)
      · have h := ifn c_40 h
        exact tX12_kindHere_51 hI    X m_38 _ _ _  h hP hS (lv_sub hl [0] rfl)
      · have h := ifp c_40 h
        refine lv_iconst (v := 1) hx hb dX12_kindHere_49 (by decide) ?_
        exact r_iret X hP hS dX12_kindHere_50 h
  · have h := ifn c_4 h
    refine lv_iconst (v := 0) hx hb dX12_kindHere_16 (by decide) ?_
    exact r_iret X hP hS dX12_kindHere_17 h

def fX12_doHere  (m : Mm) : Option (Int32 × Mm) := bd (fX12_isName (4 : Int32) (108 : Int32) (105 : Int32) (102 : Int32) (116 : Int32) m) fun r_1 m_2 => (if r_1 = 0 then bd (fX12_isName (4 : Int32) (101 : Int32) (97 : Int32) (115 : Int32) (101 : Int32) m_2) fun r_5 m_6 => (if r_5 = 0 then bd (fX12_isName (4 : Int32) (119 : Int32) (97 : Int32) (105 : Int32) (116 : Int32) m_6) fun r_9 m_10 => (if r_9 = 0 then some ((-1), m_10) else some (2, m_10)) else some (1, m_6)) else some (0, m_2))
set_option maxHeartbeats 4000000 in
set_option maxRecDepth 100000 in
theorem tX12_doHere {l : Launch} {D : va_G} {cA : Nat → ClassId} {A : Nat → Nat} (hI : InjA rN A) {m m' : Mm} {r : Int32} (h : fX12_doHere m = some (r, m')) : Met0 l yX12_doHere cX12_doHere 1 (some .int) { frames := 2, cells := 0, slots := 0, locals := 46 } rLay rN D cA A [.ref (A 0)] m (some (.int r)) m' := by
  refine met0_of (by decide) (Nat.le_of_ble_eq_true rfl) hI ?_
  intro p e s m0 below meth c ls X hinit hP hS hl
  generalize ([.ref (A 0)] : List Value).toArray = args at X ⊢
  have hl : lv_has ls 1 [(0, .ref (A 0))] := hl
  have X : CX rLay rN D cA A p s m0 args meth c "BenchTowelsModel" cX12_doHere 1 (some .int) := X
  have hx := X.1
  have hb := X.2.1
  have hml := X.2.2.1
  have hown := X.2.2.2.1
  have hts := X.2.2.2.2.1
  have hF := X.2.2.2.2.2.2.2.2.1
  rewrite [fX12_doHere] at h
  refine lv_aload_n hx hb dX12_doHere_0 rfl (lv_at hl 0 rfl) ?_
  refine lv_iconst (v := 4) hx hb dX12_doHere_1 (by decide) ?_
  refine lv_bipush (v := 108) hx hb dX12_doHere_2 (by decide) ?_
  refine lv_bipush (v := 105) hx hb dX12_doHere_4 (by decide) ?_
  refine lv_bipush (v := 102) hx hb dX12_doHere_6 (by decide) ?_
  refine lv_bipush (v := 116) hx hb dX12_doHere_8 (by decide) ?_
  obtain ⟨r_1, m_2, hc_3, h⟩ := bd_some h
  refine c_V (rest := []) X hP hS (tX12_isName hI  hc_3) (by decide) (L_ref _) rfl wt_6_186 wt_6_188 ws_3_8 wt_1_13 wt_6_189 ⟨rfl, hy_X12_isName⟩ ⟨rfl, rfl⟩ ⟨Nat.le_of_ble_eq_true rfl, Nat.le_of_ble_eq_true rfl⟩ rfl hl.1 rfl (Nat.le_of_ble_eq_true rfl) dX12_doHere_10 rfl (fun H locs hP hS => ?_)
  refine lv_if_eq (tgt := 18) hx hb dX12_doHere_13 (by decide) (fun c_4 => ?_) (fun c_4 => ?_)
  · have h := ifp c_4 h
    refine lv_aload_n hx hb dX12_doHere_18 rfl (lv_at hl 0 rfl) ?_
    refine lv_iconst (v := 4) hx hb dX12_doHere_19 (by decide) ?_
    refine lv_bipush (v := 101) hx hb dX12_doHere_20 (by decide) ?_
    refine lv_bipush (v := 97) hx hb dX12_doHere_22 (by decide) ?_
    refine lv_bipush (v := 115) hx hb dX12_doHere_24 (by decide) ?_
    refine lv_bipush (v := 101) hx hb dX12_doHere_26 (by decide) ?_
    obtain ⟨r_5, m_6, hc_7, h⟩ := bd_some h
    refine c_V (rest := []) X hP hS (tX12_isName hI  hc_7) (by decide) (L_ref _) rfl wt_6_186 wt_6_188 ws_3_8 wt_1_13 wt_6_189 ⟨rfl, hy_X12_isName⟩ ⟨rfl, rfl⟩ ⟨Nat.le_of_ble_eq_true rfl, Nat.le_of_ble_eq_true rfl⟩ rfl hl.1 rfl (Nat.le_of_ble_eq_true rfl) dX12_doHere_28 rfl (fun H locs hP hS => ?_)
    refine lv_if_eq (tgt := 36) hx hb dX12_doHere_31 (by decide) (fun c_8 => ?_) (fun c_8 => ?_)
    · have h := ifp c_8 h
      refine lv_aload_n hx hb dX12_doHere_36 rfl (lv_at hl 0 rfl) ?_
      refine lv_iconst (v := 4) hx hb dX12_doHere_37 (by decide) ?_
      refine lv_bipush (v := 119) hx hb dX12_doHere_38 (by decide) ?_
      refine lv_bipush (v := 97) hx hb dX12_doHere_40 (by decide) ?_
      refine lv_bipush (v := 105) hx hb dX12_doHere_42 (by decide) ?_
      refine lv_bipush (v := 116) hx hb dX12_doHere_44 (by decide) ?_
      obtain ⟨r_9, m_10, hc_11, h⟩ := bd_some h
      refine c_V (rest := []) X hP hS (tX12_isName hI  hc_11) (by decide) (L_ref _) rfl wt_6_186 wt_6_188 ws_3_8 wt_1_13 wt_6_189 ⟨rfl, hy_X12_isName⟩ ⟨rfl, rfl⟩ ⟨Nat.le_of_ble_eq_true rfl, Nat.le_of_ble_eq_true rfl⟩ rfl hl.1 rfl (Nat.le_of_ble_eq_true rfl) dX12_doHere_46 rfl (fun H locs hP hS => ?_)
      refine lv_if_eq (tgt := 56) hx hb dX12_doHere_49 (by decide) (fun c_12 => ?_) (fun c_12 => ?_)
      · have h := ifp c_12 h
        refine lv_iconst (v := (-1)) hx hb dX12_doHere_56 (by decide) ?_
        exact r_iret X hP hS dX12_doHere_57 h
      · have h := ifn c_12 h
        refine lv_iconst (v := 2) hx hb dX12_doHere_52 (by decide) ?_
        refine lv_goto (tgt := 57) hx hb dX12_doHere_53 (by decide) ?_
        exact r_iret X hP hS dX12_doHere_57 h
    · have h := ifn c_8 h
      refine lv_iconst (v := 1) hx hb dX12_doHere_34 (by decide) ?_
      exact r_iret X hP hS dX12_doHere_35 h
  · have h := ifn c_4 h
    refine lv_iconst (v := 0) hx hb dX12_doHere_16 (by decide) ?_
    exact r_iret X hP hS dX12_doHere_17 h

def fX12_factHere_99   (m : Mm) : Option (Int32 × Mm) := bd (fX12_isName (4 : Int32) (108 : Int32) (101 : Int32) (102 : Int32) (116 : Int32) m) fun r_13 m_14 => (if r_13 = 0 then bd (fX12_isName (6 : Int32) (110 : Int32) (117 : Int32) (109 : Int32) (114 : Int32) m_14) fun r_17 m_18 => (if r_17 = 0 then some ((-1), m_18) else bd (fX12_isSame (2 : Int32) (109 : Int32) (98 : Int32) (101 : Int32) m_18) fun r_21 m_22 => (if r_21 = 0 then some ((-1), m_22) else some (4, m_22))) else some (3, m_14))
set_option maxHeartbeats 4000000 in
set_option maxRecDepth 100000 in
theorem tX12_factHere_99 (hI : InjA rN A)  {r : Int32} {m' : Mm} (X : CX rLay rN D cA A p s m0 args meth c "BenchTowelsModel" cX12_factHere 1 (some .int)) : ∀  (m : Mm) (H : Heap) (locs : List Loc) (ls : Array Slot), fX12_factHere_99  m = some (r, m') → va_P D vwCl (wsOf rLay rN cA A m) H → va_S (AW rN A) s.heap H locs → lv_has ls 1 [(0, .ref (A 0))] → W p l e { frames := 2, cells := 0, slots := 0, locals := 46 } s m0 args below meth c H locs 0 0 (ZR below args s rLay rN D cA A (some (.int r)) m') (F0 m0 99 ls []) := by
  have hx := X.1
  have hb := X.2.1
  have hml := X.2.2.1
  have hown := X.2.2.2.1
  have hts := X.2.2.2.2.1
  have hF := X.2.2.2.2.2.2.2.2.1
  intro m H locs ls h hP hS hl
  rewrite [fX12_factHere_99] at h
  refine lv_aload_n hx hb dX12_factHere_99 rfl (lv_at hl 0 rfl) ?_
  refine lv_iconst (v := 4) hx hb dX12_factHere_100 (by decide) ?_
  refine lv_bipush (v := 108) hx hb dX12_factHere_101 (by decide) ?_
  refine lv_bipush (v := 101) hx hb dX12_factHere_103 (by decide) ?_
  refine lv_bipush (v := 102) hx hb dX12_factHere_105 (by decide) ?_
  refine lv_bipush (v := 116) hx hb dX12_factHere_107 (by decide) ?_
  obtain ⟨r_13, m_14, hc_15, h⟩ := bd_some h
  refine c_V (rest := []) X hP hS (tX12_isName hI  hc_15) (by decide) (L_ref _) rfl wt_6_186 wt_6_188 ws_3_8 wt_1_13 wt_6_189 ⟨rfl, hy_X12_isName⟩ ⟨rfl, rfl⟩ ⟨Nat.le_of_ble_eq_true rfl, Nat.le_of_ble_eq_true rfl⟩ rfl hl.1 rfl (Nat.le_of_ble_eq_true rfl) dX12_factHere_109 rfl (fun H locs hP hS => ?_)
  refine lv_if_eq (tgt := 117) hx hb dX12_factHere_112 (by decide) (fun c_16 => ?_) (fun c_16 => ?_)
  · have h := ifp c_16 h
    refine lv_aload_n hx hb dX12_factHere_117 rfl (lv_at hl 0 rfl) ?_
    refine lv_bipush (v := 6) hx hb dX12_factHere_118 (by decide) ?_
    refine lv_bipush (v := 110) hx hb dX12_factHere_120 (by decide) ?_
    refine lv_bipush (v := 117) hx hb dX12_factHere_122 (by decide) ?_
    refine lv_bipush (v := 109) hx hb dX12_factHere_124 (by decide) ?_
    refine lv_bipush (v := 114) hx hb dX12_factHere_126 (by decide) ?_
    obtain ⟨r_17, m_18, hc_19, h⟩ := bd_some h
    refine c_V (rest := []) X hP hS (tX12_isName hI  hc_19) (by decide) (L_ref _) rfl wt_6_186 wt_6_188 ws_3_8 wt_1_13 wt_6_189 ⟨rfl, hy_X12_isName⟩ ⟨rfl, rfl⟩ ⟨Nat.le_of_ble_eq_true rfl, Nat.le_of_ble_eq_true rfl⟩ rfl hl.1 rfl (Nat.le_of_ble_eq_true rfl) dX12_factHere_128 rfl (fun H locs hP hS => ?_)
    refine lv_if_eq (tgt := 152) hx hb dX12_factHere_131 (by decide) (fun c_20 => ?_) (fun c_20 => ?_)
    · have h := ifp c_20 h
      refine lv_iconst (v := (-1)) hx hb dX12_factHere_152 (by decide) ?_
      exact r_iret X hP hS dX12_factHere_153 h
    · have h := ifn c_20 h
      refine lv_aload_n hx hb dX12_factHere_134 rfl (lv_at hl 0 rfl) ?_
      refine lv_iconst (v := 2) hx hb dX12_factHere_135 (by decide) ?_
      refine lv_bipush (v := 109) hx hb dX12_factHere_136 (by decide) ?_
      refine lv_bipush (v := 98) hx hb dX12_factHere_138 (by decide) ?_
      refine lv_bipush (v := 101) hx hb dX12_factHere_140 (by decide) ?_
      obtain ⟨r_21, m_22, hc_23, h⟩ := bd_some h
      refine c_V (rest := []) X hP hS (tX12_isSame hI  hc_23) (by decide) (L_ref _) rfl wt_6_190 wt_6_192 ws_3_9 wt_1_13 wt_6_193 ⟨rfl, hy_X12_isSame⟩ ⟨rfl, rfl⟩ ⟨Nat.le_of_ble_eq_true rfl, Nat.le_of_ble_eq_true rfl⟩ rfl hl.1 rfl (Nat.le_of_ble_eq_true rfl) dX12_factHere_142 rfl (fun H locs hP hS => ?_)
      refine lv_if_eq (tgt := 152) hx hb dX12_factHere_145 (by decide) (fun c_24 => ?_) (fun c_24 => ?_)
      · have h := ifp c_24 h
        refine lv_iconst (v := (-1)) hx hb dX12_factHere_152 (by decide) ?_
        exact r_iret X hP hS dX12_factHere_153 h
      · have h := ifn c_24 h
        refine lv_iconst (v := 4) hx hb dX12_factHere_148 (by decide) ?_
        refine lv_goto (tgt := 153) hx hb dX12_factHere_149 (by decide) ?_
        exact r_iret X hP hS dX12_factHere_153 h
  · have h := ifn c_16 h
    refine lv_iconst (v := 3) hx hb dX12_factHere_115 (by decide) ?_
    exact r_iret X hP hS dX12_factHere_116 h

def fX12_factHere_66   (m : Mm) : Option (Int32 × Mm) := bd (fX12_isName (5 : Int32) (116 : Int32) (105 : Int32) (114 : Int32) (100 : Int32) m) fun r_9 m_10 => (if r_9 = 0 then fX12_factHere_99  m_10 else bd (fX12_byteAt ((m_10 0 7) + 3) m_10) fun r_25 m_26 => (if r_25 = 101 then some (2, m_26) else fX12_factHere_99  m_26))
set_option maxHeartbeats 4000000 in
set_option maxRecDepth 100000 in
theorem tX12_factHere_66 (hI : InjA rN A)  {r : Int32} {m' : Mm} (X : CX rLay rN D cA A p s m0 args meth c "BenchTowelsModel" cX12_factHere 1 (some .int)) : ∀  (m : Mm) (H : Heap) (locs : List Loc) (ls : Array Slot), fX12_factHere_66  m = some (r, m') → va_P D vwCl (wsOf rLay rN cA A m) H → va_S (AW rN A) s.heap H locs → lv_has ls 1 [(0, .ref (A 0))] → W p l e { frames := 2, cells := 0, slots := 0, locals := 46 } s m0 args below meth c H locs 0 0 (ZR below args s rLay rN D cA A (some (.int r)) m') (F0 m0 66 ls []) := by
  have hx := X.1
  have hb := X.2.1
  have hml := X.2.2.1
  have hown := X.2.2.2.1
  have hts := X.2.2.2.2.1
  have hF := X.2.2.2.2.2.2.2.2.1
  intro m H locs ls h hP hS hl
  rewrite [fX12_factHere_66] at h
  refine lv_aload_n hx hb dX12_factHere_66 rfl (lv_at hl 0 rfl) ?_
  refine lv_iconst (v := 5) hx hb dX12_factHere_67 (by decide) ?_
  refine lv_bipush (v := 116) hx hb dX12_factHere_68 (by decide) ?_
  refine lv_bipush (v := 105) hx hb dX12_factHere_70 (by decide) ?_
  refine lv_bipush (v := 114) hx hb dX12_factHere_72 (by decide) ?_
  refine lv_bipush (v := 100) hx hb dX12_factHere_74 (by decide) ?_
  obtain ⟨r_9, m_10, hc_11, h⟩ := bd_some h
  refine c_V (rest := []) X hP hS (tX12_isName hI  hc_11) (by decide) (L_ref _) rfl wt_6_186 wt_6_188 ws_3_8 wt_1_13 wt_6_189 ⟨rfl, hy_X12_isName⟩ ⟨rfl, rfl⟩ ⟨Nat.le_of_ble_eq_true rfl, Nat.le_of_ble_eq_true rfl⟩ rfl hl.1 rfl (Nat.le_of_ble_eq_true rfl) dX12_factHere_76 rfl (fun H locs hP hS => ?_)
  refine lv_if_eq (tgt := 99) hx hb dX12_factHere_79 (by decide) (fun c_12 => ?_) (fun c_12 => ?_)
  · have h := ifp c_12 h
    exact tX12_factHere_99 hI    X m_10 _ _ _  h hP hS (lv_sub hl [0] rfl)
  · have h := ifn c_12 h
    refine lv_aload_n hx hb dX12_factHere_82 rfl (lv_at hl 0 rfl) ?_
    refine lv_aload_n hx hb dX12_factHere_83 rfl (lv_at hl 0 rfl) ?_
    refine r_get kc_12 7 X hP (by decide) (L_ref _) (by decide) rfl wt_5_179 dX12_factHere_84 ?_
    refine lv_iconst (v := 3) hx hb dX12_factHere_87 (by decide) ?_
    refine lv_iadd hx hb dX12_factHere_88 ?_
    obtain ⟨r_25, m_26, hc_27, h⟩ := bd_some h
    refine c_V (rest := []) X hP hS (tX12_byteAt hI  hc_27) (by decide) (L_ref _) rfl wt_6_168 wt_6_170 ws_3_5 wt_1_13 wt_6_171 ⟨rfl, hy_X12_byteAt⟩ ⟨rfl, rfl⟩ ⟨Nat.le_of_ble_eq_true rfl, Nat.le_of_ble_eq_true rfl⟩ rfl hl.1 rfl (Nat.le_of_ble_eq_true rfl) dX12_factHere_89 rfl (fun H locs hP hS => ?_)
    refine lv_bipush (v := 101) hx hb dX12_factHere_92 (by decide) ?_
    refine lv_icmp_ne (tgt := 99) hx hb dX12_factHere_94 (by decide) (fun c_28 => ?_) (fun c_28 => ?_)
    · have h := ifn c_28 h
      exact tX12_factHere_99 hI    X m_26 _ _ _  h hP hS (lv_sub hl [0] rfl)
    · have h := ifp c_28 h
      refine lv_iconst (v := 2) hx hb dX12_factHere_97 (by decide) ?_
      exact r_iret X hP hS dX12_factHere_98 h

def fX12_factHere_33   (m : Mm) : Option (Int32 × Mm) := bd (fX12_isName (6 : Int32) (119 : Int32) (101 : Int32) (105 : Int32) (116 : Int32) m) fun r_5 m_6 => (if r_5 = 0 then fX12_factHere_66  m_6 else bd (fX12_isSame (2 : Int32) (105 : Int32) (103 : Int32) (104 : Int32) m_6) fun r_29 m_30 => (if r_29 = 0 then fX12_factHere_66  m_30 else some (1, m_30)))
set_option maxHeartbeats 4000000 in
set_option maxRecDepth 100000 in
theorem tX12_factHere_33 (hI : InjA rN A)  {r : Int32} {m' : Mm} (X : CX rLay rN D cA A p s m0 args meth c "BenchTowelsModel" cX12_factHere 1 (some .int)) : ∀  (m : Mm) (H : Heap) (locs : List Loc) (ls : Array Slot), fX12_factHere_33  m = some (r, m') → va_P D vwCl (wsOf rLay rN cA A m) H → va_S (AW rN A) s.heap H locs → lv_has ls 1 [(0, .ref (A 0))] → W p l e { frames := 2, cells := 0, slots := 0, locals := 46 } s m0 args below meth c H locs 0 0 (ZR below args s rLay rN D cA A (some (.int r)) m') (F0 m0 33 ls []) := by
  have hx := X.1
  have hb := X.2.1
  have hml := X.2.2.1
  have hown := X.2.2.2.1
  have hts := X.2.2.2.2.1
  have hF := X.2.2.2.2.2.2.2.2.1
  intro m H locs ls h hP hS hl
  rewrite [fX12_factHere_33] at h
  refine lv_aload_n hx hb dX12_factHere_33 rfl (lv_at hl 0 rfl) ?_
  refine lv_bipush (v := 6) hx hb dX12_factHere_34 (by decide) ?_
  refine lv_bipush (v := 119) hx hb dX12_factHere_36 (by decide) ?_
  refine lv_bipush (v := 101) hx hb dX12_factHere_38 (by decide) ?_
  refine lv_bipush (v := 105) hx hb dX12_factHere_40 (by decide) ?_
  refine lv_bipush (v := 116) hx hb dX12_factHere_42 (by decide) ?_
  obtain ⟨r_5, m_6, hc_7, h⟩ := bd_some h
  refine c_V (rest := []) X hP hS (tX12_isName hI  hc_7) (by decide) (L_ref _) rfl wt_6_186 wt_6_188 ws_3_8 wt_1_13 wt_6_189 ⟨rfl, hy_X12_isName⟩ ⟨rfl, rfl⟩ ⟨Nat.le_of_ble_eq_true rfl, Nat.le_of_ble_eq_true rfl⟩ rfl hl.1 rfl (Nat.le_of_ble_eq_true rfl) dX12_factHere_44 rfl (fun H locs hP hS => ?_)
  refine lv_if_eq (tgt := 66) hx hb dX12_factHere_47 (by decide) (fun c_8 => ?_) (fun c_8 => ?_)
  · have h := ifp c_8 h
    exact tX12_factHere_66 hI    X m_6 _ _ _  h hP hS (lv_sub hl [0] rfl)
  · have h := ifn c_8 h
    refine lv_aload_n hx hb dX12_factHere_50 rfl (lv_at hl 0 rfl) ?_
    refine lv_iconst (v := 2) hx hb dX12_factHere_51 (by decide) ?_
    refine lv_bipush (v := 105) hx hb dX12_factHere_52 (by decide) ?_
    refine lv_bipush (v := 103) hx hb dX12_factHere_54 (by decide) ?_
    refine lv_bipush (v := 104) hx hb dX12_factHere_56 (by decide) ?_
    obtain ⟨r_29, m_30, hc_31, h⟩ := bd_some h
    refine c_V (rest := []) X hP hS (tX12_isSame hI  hc_31) (by decide) (L_ref _) rfl wt_6_190 wt_6_192 ws_3_9 wt_1_13 wt_6_193 ⟨rfl, hy_X12_isSame⟩ ⟨rfl, rfl⟩ ⟨Nat.le_of_ble_eq_true rfl, Nat.le_of_ble_eq_true rfl⟩ rfl hl.1 rfl (Nat.le_of_ble_eq_true rfl) dX12_factHere_58 rfl (fun H locs hP hS => ?_)
    refine lv_if_eq (tgt := 66) hx hb dX12_factHere_61 (by decide) (fun c_32 => ?_) (fun c_32 => ?_)
    · have h := ifp c_32 h
      exact tX12_factHere_66 hI    X m_30 _ _ _  h hP hS (lv_sub hl [0] rfl)
    · have h := ifn c_32 h
      refine lv_iconst (v := 1) hx hb dX12_factHere_64 (by decide) ?_
      exact r_iret X hP hS dX12_factHere_65 h

def fX12_factHere  (m : Mm) : Option (Int32 × Mm) := bd (fX12_isName (6 : Int32) (109 : Int32) (105 : Int32) (110 : Int32) (101 : Int32) m) fun r_1 m_2 => (if r_1 = 0 then fX12_factHere_33  m_2 else bd (fX12_isSame (2 : Int32) (110 : Int32) (117 : Int32) (116 : Int32) m_2) fun r_33 m_34 => (if r_33 = 0 then fX12_factHere_33  m_34 else some (0, m_34)))
set_option maxHeartbeats 4000000 in
set_option maxRecDepth 100000 in
theorem tX12_factHere {l : Launch} {D : va_G} {cA : Nat → ClassId} {A : Nat → Nat} (hI : InjA rN A) {m m' : Mm} {r : Int32} (h : fX12_factHere m = some (r, m')) : Met0 l yX12_factHere cX12_factHere 1 (some .int) { frames := 2, cells := 0, slots := 0, locals := 46 } rLay rN D cA A [.ref (A 0)] m (some (.int r)) m' := by
  refine met0_of (by decide) (Nat.le_of_ble_eq_true rfl) hI ?_
  intro p e s m0 below meth c ls X hinit hP hS hl
  generalize ([.ref (A 0)] : List Value).toArray = args at X ⊢
  have hl : lv_has ls 1 [(0, .ref (A 0))] := hl
  have X : CX rLay rN D cA A p s m0 args meth c "BenchTowelsModel" cX12_factHere 1 (some .int) := X
  have hx := X.1
  have hb := X.2.1
  have hml := X.2.2.1
  have hown := X.2.2.2.1
  have hts := X.2.2.2.2.1
  have hF := X.2.2.2.2.2.2.2.2.1
  rewrite [fX12_factHere] at h
  refine lv_aload_n hx hb dX12_factHere_0 rfl (lv_at hl 0 rfl) ?_
  refine lv_bipush (v := 6) hx hb dX12_factHere_1 (by decide) ?_
  refine lv_bipush (v := 109) hx hb dX12_factHere_3 (by decide) ?_
  refine lv_bipush (v := 105) hx hb dX12_factHere_5 (by decide) ?_
  refine lv_bipush (v := 110) hx hb dX12_factHere_7 (by decide) ?_
  refine lv_bipush (v := 101) hx hb dX12_factHere_9 (by decide) ?_
  obtain ⟨r_1, m_2, hc_3, h⟩ := bd_some h
  refine c_V (rest := []) X hP hS (tX12_isName hI  hc_3) (by decide) (L_ref _) rfl wt_6_186 wt_6_188 ws_3_8 wt_1_13 wt_6_189 ⟨rfl, hy_X12_isName⟩ ⟨rfl, rfl⟩ ⟨Nat.le_of_ble_eq_true rfl, Nat.le_of_ble_eq_true rfl⟩ rfl hl.1 rfl (Nat.le_of_ble_eq_true rfl) dX12_factHere_11 rfl (fun H locs hP hS => ?_)
  refine lv_if_eq (tgt := 33) hx hb dX12_factHere_14 (by decide) (fun c_4 => ?_) (fun c_4 => ?_)
  · have h := ifp c_4 h
    exact tX12_factHere_33 hI    X m_2 _ _ _  h hP hS (lv_sub hl [0] rfl)
  · have h := ifn c_4 h
    refine lv_aload_n hx hb dX12_factHere_17 rfl (lv_at hl 0 rfl) ?_
    refine lv_iconst (v := 2) hx hb dX12_factHere_18 (by decide) ?_
    refine lv_bipush (v := 110) hx hb dX12_factHere_19 (by decide) ?_
    refine lv_bipush (v := 117) hx hb dX12_factHere_21 (by decide) ?_
    refine lv_bipush (v := 116) hx hb dX12_factHere_23 (by decide) ?_
    obtain ⟨r_33, m_34, hc_35, h⟩ := bd_some h
    refine c_V (rest := []) X hP hS (tX12_isSame hI  hc_35) (by decide) (L_ref _) rfl wt_6_190 wt_6_192 ws_3_9 wt_1_13 wt_6_193 ⟨rfl, hy_X12_isSame⟩ ⟨rfl, rfl⟩ ⟨Nat.le_of_ble_eq_true rfl, Nat.le_of_ble_eq_true rfl⟩ rfl hl.1 rfl (Nat.le_of_ble_eq_true rfl) dX12_factHere_25 rfl (fun H locs hP hS => ?_)
    refine lv_if_eq (tgt := 33) hx hb dX12_factHere_28 (by decide) (fun c_36 => ?_) (fun c_36 => ?_)
    · have h := ifp c_36 h
      exact tX12_factHere_33 hI    X m_34 _ _ _  h hP hS (lv_sub hl [0] rfl)
    · have h := ifn c_36 h
      refine lv_iconst (v := 0) hx hb dX12_factHere_31 (by decide) ?_
      exact r_iret X hP hS dX12_factHere_32 h

def fX12_isTwo (a1 : Int32) (a2 : Int32) (m : Mm) : Option (Int32 × Mm) := (if (m 0 6) = 1 then (if ((m 0 8) - (m 0 7)) = 2 then bd (fX12_byteAt (m 0 7) m) fun r_3 m_4 => (if r_3 = a1 then bd (fX12_byteAt ((m_4 0 7) + 1) m_4) fun r_7 m_8 => (if r_7 = a2 then some (1, m_8) else some (0, m_8)) else some (0, m_4)) else some (0, m)) else some (0, m))
set_option maxHeartbeats 4000000 in
set_option maxRecDepth 100000 in
theorem tX12_isTwo {l : Launch} {D : va_G} {cA : Nat → ClassId} {A : Nat → Nat} (hI : InjA rN A) {a1 : Int32} {a2 : Int32} {m m' : Mm} {r : Int32} (h : fX12_isTwo a1 a2 m = some (r, m')) : Met0 l yX12_isTwo cX12_isTwo 3 (some .boolean) { frames := 1, cells := 0, slots := 0, locals := 21 } rLay rN D cA A [.ref (A 0), .int a1, .int a2] m (some (.int r)) m' := by
  refine met0_of (by decide) (Nat.le_of_ble_eq_true rfl) hI ?_
  intro p e s m0 below meth c ls X hinit hP hS hl
  generalize ([.ref (A 0), .int a1, .int a2] : List Value).toArray = args at X ⊢
  have hl : lv_has ls 3 [(0, .ref (A 0)), (1, .int a1), (2, .int a2)] := hl
  have X : CX rLay rN D cA A p s m0 args meth c "BenchTowelsModel" cX12_isTwo 3 (some .boolean) := X
  have hx := X.1
  have hb := X.2.1
  have hml := X.2.2.1
  have hown := X.2.2.2.1
  have hts := X.2.2.2.2.1
  have hF := X.2.2.2.2.2.2.2.2.1
  rewrite [fX12_isTwo] at h
  refine lv_aload_n hx hb dX12_isTwo_0 rfl (lv_at hl 0 rfl) ?_
  refine r_get kc_12 6 X hP (by decide) (L_ref _) (by decide) rfl wt_5_178 dX12_isTwo_1 ?_
  refine lv_iconst (v := 1) hx hb dX12_isTwo_4 (by decide) ?_
  refine lv_icmp_ne (tgt := 51) hx hb dX12_isTwo_5 (by decide) (fun c_1 => ?_) (fun c_1 => ?_)
  · have h := ifn c_1 h
    refine lv_iconst (v := 0) hx hb dX12_isTwo_51 (by decide) ?_
    exact r_zret X (Or.inl rfl) hP hS dX12_isTwo_52 h
  · have h := ifp c_1 h
    refine lv_aload_n hx hb dX12_isTwo_8 rfl (lv_at hl 0 rfl) ?_
    refine r_get kc_12 8 X hP (by decide) (L_ref _) (by decide) rfl wt_5_180 dX12_isTwo_9 ?_
    refine lv_aload_n hx hb dX12_isTwo_12 rfl (lv_at hl 0 rfl) ?_
    refine r_get kc_12 7 X hP (by decide) (L_ref _) (by decide) rfl wt_5_179 dX12_isTwo_13 ?_
    refine lv_isub hx hb dX12_isTwo_16 ?_
    refine lv_iconst (v := 2) hx hb dX12_isTwo_17 (by decide) ?_
    refine lv_icmp_ne (tgt := 51) hx hb dX12_isTwo_18 (by decide) (fun c_2 => ?_) (fun c_2 => ?_)
    · have h := ifn c_2 h
      refine lv_iconst (v := 0) hx hb dX12_isTwo_51 (by decide) ?_
      exact r_zret X (Or.inl rfl) hP hS dX12_isTwo_52 h
    · have h := ifp c_2 h
      refine lv_aload_n hx hb dX12_isTwo_21 rfl (lv_at hl 0 rfl) ?_
      refine lv_aload_n hx hb dX12_isTwo_22 rfl (lv_at hl 0 rfl) ?_
      refine r_get kc_12 7 X hP (by decide) (L_ref _) (by decide) rfl wt_5_179 dX12_isTwo_23 ?_
      obtain ⟨r_3, m_4, hc_5, h⟩ := bd_some h
      refine c_V (rest := []) X hP hS (tX12_byteAt hI  hc_5) (by decide) (L_ref _) rfl wt_6_168 wt_6_170 ws_3_5 wt_1_13 wt_6_171 ⟨rfl, hy_X12_byteAt⟩ ⟨rfl, rfl⟩ ⟨Nat.le_of_ble_eq_true rfl, Nat.le_of_ble_eq_true rfl⟩ rfl hl.1 rfl (Nat.le_of_ble_eq_true rfl) dX12_isTwo_26 rfl (fun H locs hP hS => ?_)
      refine lv_iload_n hx hb dX12_isTwo_29 rfl (lv_at hl 1 rfl) ?_
      refine lv_icmp_ne (tgt := 51) hx hb dX12_isTwo_30 (by decide) (fun c_6 => ?_) (fun c_6 => ?_)
      · have h := ifn c_6 h
        refine lv_iconst (v := 0) hx hb dX12_isTwo_51 (by decide) ?_
        exact r_zret X (Or.inl rfl) hP hS dX12_isTwo_52 h
      · have h := ifp c_6 h
        refine lv_aload_n hx hb dX12_isTwo_33 rfl (lv_at hl 0 rfl) ?_
        refine lv_aload_n hx hb dX12_isTwo_34 rfl (lv_at hl 0 rfl) ?_
        refine r_get kc_12 7 X hP (by decide) (L_ref _) (by decide) rfl wt_5_179 dX12_isTwo_35 ?_
        refine lv_iconst (v := 1) hx hb dX12_isTwo_38 (by decide) ?_
        refine lv_iadd hx hb dX12_isTwo_39 ?_
        obtain ⟨r_7, m_8, hc_9, h⟩ := bd_some h
        refine c_V (rest := []) X hP hS (tX12_byteAt hI  hc_9) (by decide) (L_ref _) rfl wt_6_168 wt_6_170 ws_3_5 wt_1_13 wt_6_171 ⟨rfl, hy_X12_byteAt⟩ ⟨rfl, rfl⟩ ⟨Nat.le_of_ble_eq_true rfl, Nat.le_of_ble_eq_true rfl⟩ rfl hl.1 rfl (Nat.le_of_ble_eq_true rfl) dX12_isTwo_40 rfl (fun H locs hP hS => ?_)
        refine lv_iload_n hx hb dX12_isTwo_43 rfl (lv_at hl 2 rfl) ?_
        refine lv_icmp_ne (tgt := 51) hx hb dX12_isTwo_44 (by decide) (fun c_10 => ?_) (fun c_10 => ?_)
        · have h := ifn c_10 h
          refine lv_iconst (v := 0) hx hb dX12_isTwo_51 (by decide) ?_
          exact r_zret X (Or.inl rfl) hP hS dX12_isTwo_52 h
        · have h := ifp c_10 h
          refine lv_iconst (v := 1) hx hb dX12_isTwo_47 (by decide) ?_
          refine lv_goto (tgt := 52) hx hb dX12_isTwo_48 (by decide) ?_
          exact r_zret X (Or.inr rfl) hP hS dX12_isTwo_52 h

def fX12_steps (a1 : Int32) (a2 : Int32) (a3 : Int32) (m : Mm) : Option (Int32 × Mm) := (if (m 0 10) = 0 then gx ((103 : Int32) + ((3 : Int32) * (m 1 7))) 553 (lt (up m 1 (ix ((103 : Int32) + ((3 : Int32) * (m 1 7)))) a1) fun m_3 => gx (((103 : Int32) + ((3 : Int32) * (m_3 1 7))) + 1) 553 (lt (up m_3 1 (ix (((103 : Int32) + ((3 : Int32) * (m_3 1 7))) + 1)) a2) fun m_6 => gx (((103 : Int32) + ((3 : Int32) * (m_6 1 7))) + 2) 553 (lt (up m_6 1 (ix (((103 : Int32) + ((3 : Int32) * (m_6 1 7))) + 2)) a3) fun m_9 => lt (up m_9 1 7 ((m_9 1 7) + 1)) fun m_11 => some (0, m_11)))) else some (0, m))
set_option maxHeartbeats 4000000 in
set_option maxRecDepth 100000 in
theorem tX12_steps {l : Launch} {D : va_G} {cA : Nat → ClassId} {A : Nat → Nat} (hI : InjA rN A) {a1 : Int32} {a2 : Int32} {a3 : Int32} {m m' : Mm} {r : Int32} (h : fX12_steps a1 a2 a3 m = some (r, m')) : Met0 l yX12_steps cX12_steps 4 none { frames := 0, cells := 0, slots := 0, locals := 0 } rLay rN D cA A [.ref (A 0), .int a1, .int a2, .int a3] m none m' := by
  refine met0_of (by decide) (Nat.le_of_ble_eq_true rfl) hI ?_
  intro p e s m0 below meth c ls X hinit hP hS hl
  generalize ([.ref (A 0), .int a1, .int a2, .int a3] : List Value).toArray = args at X ⊢
  have hl : lv_has ls 4 [(0, .ref (A 0)), (1, .int a1), (2, .int a2), (3, .int a3)] := hl
  have X : CX rLay rN D cA A p s m0 args meth c "BenchTowelsModel" cX12_steps 4 none := X
  have hx := X.1
  have hb := X.2.1
  have hml := X.2.2.1
  have hown := X.2.2.2.1
  have hts := X.2.2.2.2.1
  have hF := X.2.2.2.2.2.2.2.2.1
  rewrite [fX12_steps] at h
  refine lv_aload_n hx hb dX12_steps_0 rfl (lv_at hl 0 rfl) ?_
  refine r_get kc_12 10 X hP (by decide) (L_ref _) (by decide) rfl wt_5_182 dX12_steps_1 ?_
  refine lv_if_ne (tgt := 76) hx hb dX12_steps_4 (by decide) (fun c_1 => ?_) (fun c_1 => ?_)
  · have h := ifn c_1 h
    exact r_vret X hP hS dX12_steps_76 h
  · have h := ifp c_1 h
    refine lv_aload_n hx hb dX12_steps_7 rfl (lv_at hl 0 rfl) ?_
    refine r_get kc_12 0 X hP (by decide) (L_ref _) (by decide) rfl wt_5_172 dX12_steps_8 ?_
    refine lv_bipush (v := 103) hx hb dX12_steps_11 (by decide) ?_
    refine lv_iconst (v := 3) hx hb dX12_steps_13 (by decide) ?_
    refine lv_aload_n hx hb dX12_steps_14 rfl (lv_at hl 0 rfl) ?_
    refine r_get kc_12 0 X hP (by decide) (L_ref _) (by decide) rfl wt_5_172 dX12_steps_15 ?_
    refine lv_bipush (v := 7) hx hb dX12_steps_18 (by decide) ?_
    refine r_iald X hP (by decide) (Lr_1 _) (vpc (by decide)) ixc_7 dX12_steps_20 ?_
    refine lv_imul hx hb dX12_steps_21 ?_
    refine lv_iadd hx hb dX12_steps_22 ?_
    refine lv_iload_n hx hb dX12_steps_23 rfl (lv_at hl 1 rfl) ?_
    obtain ⟨hin_2, h⟩ := gx_some h
    obtain ⟨m_3, em_4, h⟩ := lt_some h
    refine r_iast X hP hS (by decide) Lr_1 hin_2 rfl dX12_steps_24 em_4 (fun H locs hP hS => ?_)
    refine lv_aload_n hx hb dX12_steps_25 rfl (lv_at hl 0 rfl) ?_
    refine r_get kc_12 0 X hP (by decide) (L_ref _) (by decide) rfl wt_5_172 dX12_steps_26 ?_
    refine lv_bipush (v := 103) hx hb dX12_steps_29 (by decide) ?_
    refine lv_iconst (v := 3) hx hb dX12_steps_31 (by decide) ?_
    refine lv_aload_n hx hb dX12_steps_32 rfl (lv_at hl 0 rfl) ?_
    refine r_get kc_12 0 X hP (by decide) (L_ref _) (by decide) rfl wt_5_172 dX12_steps_33 ?_
    refine lv_bipush (v := 7) hx hb dX12_steps_36 (by decide) ?_
    refine r_iald X hP (by decide) (Lr_1 _) (vpc (by decide)) ixc_7 dX12_steps_38 ?_
    refine lv_imul hx hb dX12_steps_39 ?_
    refine lv_iadd hx hb dX12_steps_40 ?_
    refine lv_iconst (v := 1) hx hb dX12_steps_41 (by decide) ?_
    refine lv_iadd hx hb dX12_steps_42 ?_
    refine lv_iload_n hx hb dX12_steps_43 rfl (lv_at hl 2 rfl) ?_
    obtain ⟨hin_5, h⟩ := gx_some h
    obtain ⟨m_6, em_7, h⟩ := lt_some h
    refine r_iast X hP hS (by decide) Lr_1 hin_5 rfl dX12_steps_44 em_7 (fun H locs hP hS => ?_)
    refine lv_aload_n hx hb dX12_steps_45 rfl (lv_at hl 0 rfl) ?_
    refine r_get kc_12 0 X hP (by decide) (L_ref _) (by decide) rfl wt_5_172 dX12_steps_46 ?_
    refine lv_bipush (v := 103) hx hb dX12_steps_49 (by decide) ?_
    refine lv_iconst (v := 3) hx hb dX12_steps_51 (by decide) ?_
    refine lv_aload_n hx hb dX12_steps_52 rfl (lv_at hl 0 rfl) ?_
    refine r_get kc_12 0 X hP (by decide) (L_ref _) (by decide) rfl wt_5_172 dX12_steps_53 ?_
    refine lv_bipush (v := 7) hx hb dX12_steps_56 (by decide) ?_
    refine r_iald X hP (by decide) (Lr_1 _) (vpc (by decide)) ixc_7 dX12_steps_58 ?_
    refine lv_imul hx hb dX12_steps_59 ?_
    refine lv_iadd hx hb dX12_steps_60 ?_
    refine lv_iconst (v := 2) hx hb dX12_steps_61 (by decide) ?_
    refine lv_iadd hx hb dX12_steps_62 ?_
    refine lv_iload_n hx hb dX12_steps_63 rfl (lv_at hl 3 rfl) ?_
    obtain ⟨hin_8, h⟩ := gx_some h
    obtain ⟨m_9, em_10, h⟩ := lt_some h
    refine r_iast X hP hS (by decide) Lr_1 hin_8 rfl dX12_steps_64 em_10 (fun H locs hP hS => ?_)
    refine lv_aload_n hx hb dX12_steps_65 rfl (lv_at hl 0 rfl) ?_
    refine r_get kc_12 0 X hP (by decide) (L_ref _) (by decide) rfl wt_5_172 dX12_steps_66 ?_
    refine lv_bipush (v := 7) hx hb dX12_steps_69 (by decide) ?_
    refine lv_dup2_11 hx hb dX12_steps_71 rfl rfl ?_
    refine r_iald X hP (by decide) (Lr_1 _) (vpc (by decide)) ixc_7 dX12_steps_72 ?_
    refine lv_iconst (v := 1) hx hb dX12_steps_73 (by decide) ?_
    refine lv_iadd hx hb dX12_steps_74 ?_
    obtain ⟨m_11, em_12, h⟩ := lt_some h
    refine r_iast X hP hS (by decide) Lr_1 (vpc (by decide)) ixc_7 dX12_steps_75 em_12 (fun H locs hP hS => ?_)
    exact r_vret X hP hS dX12_steps_76 h

def fX12_valueHere_53  (x2 : Int32) (s0 : Int32) (m : Mm) : Option (Int32 × Mm) := bd (fX12_needs s0 m) fun r_6 m_7 => some (x2, m_7)
set_option maxHeartbeats 4000000 in
set_option maxRecDepth 100000 in
theorem tX12_valueHere_53 (hI : InjA rN A)  {r : Int32} {m' : Mm} (X : CX rLay rN D cA A p s m0 args meth c "BenchTowelsModel" cX12_valueHere 3 (some .int)) : ∀ (x2 : Int32) (s0 : Int32) (m : Mm) (H : Heap) (locs : List Loc) (ls : Array Slot), fX12_valueHere_53 x2 s0 m = some (r, m') → va_P D vwCl (wsOf rLay rN cA A m) H → va_S (AW rN A) s.heap H locs → lv_has ls 3 [(2, .int x2)] → W p l e { frames := 3, cells := 0, slots := 0, locals := 66 } s m0 args below meth c H locs 0 0 (ZR below args s rLay rN D cA A (some (.int r)) m') (F0 m0 53 ls [.int s0, .ref (A 0)]) := by
  have hx := X.1
  have hb := X.2.1
  have hml := X.2.2.1
  have hown := X.2.2.2.1
  have hts := X.2.2.2.2.1
  have hF := X.2.2.2.2.2.2.2.2.1
  intro x2 s0 m H locs ls h hP hS hl
  rewrite [fX12_valueHere_53] at h
  obtain ⟨r_6, m_7, hc_8, h⟩ := bd_some h
  refine c_V (rest := []) X hP hS (tX12_needs hI  hc_8) (by decide) (L_ref _) rfl wt_6_194 wt_6_196 ws_3_10 wt_1_13 wt_6_197 ⟨rfl, hy_X12_needs⟩ ⟨rfl, rfl⟩ ⟨Nat.le_of_ble_eq_true rfl, Nat.le_of_ble_eq_true rfl⟩ rfl hl.1 rfl (Nat.le_of_ble_eq_true rfl) dX12_valueHere_53 rfl (fun H locs hP hS => ?_)
  refine lv_iload_n hx hb dX12_valueHere_56 rfl (lv_at hl 0 rfl) ?_
  exact r_iret X hP hS dX12_valueHere_57 h

def fX12_valueHere_21  (x1 : Int32) (s0 : Int32) (m : Mm) : Option (Int32 × Mm) := (if (0 : Int32) ≤ x1 then (fX12_valueHere_53  s0 1 m) else (if (m 0 6) = 2 then (if (4 : Int32) < ((m 0 8) - (m 0 7)) then (fX12_valueHere_53  s0 0 m) else (fX12_valueHere_53  s0 1 m)) else (fX12_valueHere_53  s0 0 m)))
set_option maxHeartbeats 4000000 in
set_option maxRecDepth 100000 in
theorem tX12_valueHere_21 (hI : InjA rN A)  {r : Int32} {m' : Mm} (X : CX rLay rN D cA A p s m0 args meth c "BenchTowelsModel" cX12_valueHere 3 (some .int)) : ∀ (x1 : Int32) (s0 : Int32) (m : Mm) (H : Heap) (locs : List Loc) (ls : Array Slot), fX12_valueHere_21 x1 s0 m = some (r, m') → va_P D vwCl (wsOf rLay rN cA A m) H → va_S (AW rN A) s.heap H locs → lv_has ls 3 [(0, .ref (A 0)), (1, .int x1)] → W p l e { frames := 3, cells := 0, slots := 0, locals := 66 } s m0 args below meth c H locs 0 0 (ZR below args s rLay rN D cA A (some (.int r)) m') (F0 m0 21 ls [.int s0]) := by
  have hx := X.1
  have hb := X.2.1
  have hml := X.2.2.1
  have hown := X.2.2.2.1
  have hts := X.2.2.2.2.1
  have hF := X.2.2.2.2.2.2.2.2.1
  intro x1 s0 m H locs ls h hP hS hl
  rewrite [fX12_valueHere_21] at h
  refine lv_istore_n (lv' := [(2, .int s0), (0, .ref (A 0)), (1, .int x1)]) hx hb dX12_valueHere_21 rfl hl (by decide) rfl (fun ls hl => ?_)
  refine lv_aload_n hx hb dX12_valueHere_22 rfl (lv_at hl 1 rfl) ?_
  refine lv_iload_n hx hb dX12_valueHere_23 rfl (lv_at hl 2 rfl) ?_
  refine lv_if_ge (tgt := 48) hx hb dX12_valueHere_24 (by decide) (fun c_5 => ?_) (fun c_5 => ?_)
  · have h := ifp c_5 h
    refine lv_iconst (v := 1) hx hb dX12_valueHere_48 (by decide) ?_
    refine lv_goto (tgt := 53) hx hb dX12_valueHere_49 (by decide) ?_
    exact tX12_valueHere_53 hI    X s0 1 m _ _ _  h hP hS (lv_sub hl [0] rfl)
  · have h := ifn c_5 h
    refine lv_aload_n hx hb dX12_valueHere_27 rfl (lv_at hl 1 rfl) ?_
    refine r_get kc_12 6 X hP (by decide) (L_ref _) (by decide) rfl wt_5_178 dX12_valueHere_28 ?_
    refine lv_iconst (v := 2) hx hb dX12_valueHere_31 (by decide) ?_
    refine lv_icmp_ne (tgt := 52) hx hb dX12_valueHere_32 (by decide) (fun c_9 => ?_) (fun c_9 => ?_)
    · have h := ifn c_9 h
      refine lv_iconst (v := 0) hx hb dX12_valueHere_52 (by decide) ?_
      exact tX12_valueHere_53 hI    X s0 0 m _ _ _  h hP hS (lv_sub hl [0] rfl)
    · have h := ifp c_9 h
      refine lv_aload_n hx hb dX12_valueHere_35 rfl (lv_at hl 1 rfl) ?_
      refine r_get kc_12 8 X hP (by decide) (L_ref _) (by decide) rfl wt_5_180 dX12_valueHere_36 ?_
      refine lv_aload_n hx hb dX12_valueHere_39 rfl (lv_at hl 1 rfl) ?_
      refine r_get kc_12 7 X hP (by decide) (L_ref _) (by decide) rfl wt_5_179 dX12_valueHere_40 ?_
      refine lv_isub hx hb dX12_valueHere_43 ?_
      refine lv_iconst (v := 4) hx hb dX12_valueHere_44 (by decide) ?_
      refine lv_icmp_gt (tgt := 52) hx hb dX12_valueHere_45 (by decide) (fun c_10 => ?_) (fun c_10 => ?_)
      · have h := ifp c_10 h
        refine lv_iconst (v := 0) hx hb dX12_valueHere_52 (by decide) ?_
        exact tX12_valueHere_53 hI    X s0 0 m _ _ _  h hP hS (lv_sub hl [0] rfl)
      · have h := ifn c_10 h
        refine lv_iconst (v := 1) hx hb dX12_valueHere_48 (by decide) ?_
        refine lv_goto (tgt := 53) hx hb dX12_valueHere_49 (by decide) ?_
        exact tX12_valueHere_53 hI    X s0 1 m _ _ _  h hP hS (lv_sub hl [0] rfl)

def fX12_valueHere  (m : Mm) : Option (Int32 × Mm) := bd (fX12_factHere m) fun r_1 m_2 => (if r_1 < 0 then (fX12_valueHere_21  r_1 (m_2 0 9) m_2) else (fX12_valueHere_21  r_1 ((10000 : Int32) + r_1) m_2))
set_option maxHeartbeats 4000000 in
set_option maxRecDepth 100000 in
theorem tX12_valueHere {l : Launch} {D : va_G} {cA : Nat → ClassId} {A : Nat → Nat} (hI : InjA rN A) {m m' : Mm} {r : Int32} (h : fX12_valueHere m = some (r, m')) : Met0 l yX12_valueHere cX12_valueHere 3 (some .int) { frames := 3, cells := 0, slots := 0, locals := 66 } rLay rN D cA A [.ref (A 0)] m (some (.int r)) m' := by
  refine met0_of (by decide) (Nat.le_of_ble_eq_true rfl) hI ?_
  intro p e s m0 below meth c ls X hinit hP hS hl
  generalize ([.ref (A 0)] : List Value).toArray = args at X ⊢
  have hl : lv_has ls 3 [(0, .ref (A 0))] := hl
  have X : CX rLay rN D cA A p s m0 args meth c "BenchTowelsModel" cX12_valueHere 3 (some .int) := X
  have hx := X.1
  have hb := X.2.1
  have hml := X.2.2.1
  have hown := X.2.2.2.1
  have hts := X.2.2.2.2.1
  have hF := X.2.2.2.2.2.2.2.2.1
  rewrite [fX12_valueHere] at h
  refine lv_aload_n hx hb dX12_valueHere_0 rfl (lv_at hl 0 rfl) ?_
  obtain ⟨r_1, m_2, hc_3, h⟩ := bd_some h
  refine c_V (rest := []) X hP hS (tX12_factHere hI  hc_3) (by decide) (L_ref _) rfl wt_6_226 wt_6_228 ws_4_2 wt_1_13 wt_6_229 ⟨rfl, hy_X12_factHere⟩ ⟨rfl, rfl⟩ ⟨Nat.le_of_ble_eq_true rfl, Nat.le_of_ble_eq_true rfl⟩ rfl hl.1 rfl (Nat.le_of_ble_eq_true rfl) dX12_valueHere_1 rfl (fun H locs hP hS => ?_)
  refine lv_istore_n (lv' := [(1, .int r_1), (0, .ref (A 0))]) hx hb dX12_valueHere_4 rfl hl (by decide) rfl (fun ls hl => ?_)
  refine lv_iload_n hx hb dX12_valueHere_5 rfl (lv_at hl 0 rfl) ?_
  refine lv_if_lt (tgt := 17) hx hb dX12_valueHere_6 (by decide) (fun c_4 => ?_) (fun c_4 => ?_)
  · have h := ifp c_4 h
    refine lv_aload_n hx hb dX12_valueHere_17 rfl (lv_at hl 1 rfl) ?_
    refine r_get kc_12 9 X hP (by decide) (L_ref _) (by decide) rfl wt_5_181 dX12_valueHere_18 ?_
    exact tX12_valueHere_21 hI    X r_1 (m_2 0 9) m_2 _ _ _  h hP hS (lv_sub hl [1, 0] rfl)
  · have h := ifn c_4 h
    refine lv_sipush (v := 10000) hx hb dX12_valueHere_9 (by decide) ?_
    refine lv_iload_n hx hb dX12_valueHere_12 rfl (lv_at hl 0 rfl) ?_
    refine lv_iadd hx hb dX12_valueHere_13 ?_
    refine lv_goto (tgt := 21) hx hb dX12_valueHere_14 (by decide) ?_
    exact tX12_valueHere_21 hI    X r_1 ((10000 : Int32) + r_1) m_2 _ _ _  h hP hS (lv_sub hl [1, 0] rfl)

def fX12_comparesHere_66  (x1 : Int32) (x2 : Int32) (s0 : Int32) (m : Mm) : Option (Int32 × Mm) := bd (fX12_needs s0 m) fun r_16 m_17 => bd (fX12_valueHere m_17) fun r_19 m_20 => bd (fX12_steps x2 x1 r_19 m_20) fun r_22 m_23 => some (0, m_23)
set_option maxHeartbeats 4000000 in
set_option maxRecDepth 100000 in
theorem tX12_comparesHere_66 (hI : InjA rN A)  {r : Int32} {m' : Mm} (X : CX rLay rN D cA A p s m0 args meth c "BenchTowelsModel" cX12_comparesHere 4 none) : ∀ (x1 : Int32) (x2 : Int32) (s0 : Int32) (m : Mm) (H : Heap) (locs : List Loc) (ls : Array Slot), fX12_comparesHere_66 x1 x2 s0 m = some (r, m') → va_P D vwCl (wsOf rLay rN cA A m) H → va_S (AW rN A) s.heap H locs → lv_has ls 4 [(0, .ref (A 0)), (1, .int x1), (2, .int x2)] → W p l e { frames := 4, cells := 0, slots := 0, locals := 88 } s m0 args below meth c H locs 0 0 (ZR below args s rLay rN D cA A none m') (F0 m0 66 ls [.int s0, .ref (A 0)]) := by
  have hx := X.1
  have hb := X.2.1
  have hml := X.2.2.1
  have hown := X.2.2.2.1
  have hts := X.2.2.2.2.1
  have hF := X.2.2.2.2.2.2.2.2.1
  intro x1 x2 s0 m H locs ls h hP hS hl
  rewrite [fX12_comparesHere_66] at h
  obtain ⟨r_16, m_17, hc_18, h⟩ := bd_some h
  refine c_V (rest := []) X hP hS (tX12_needs hI  hc_18) (by decide) (L_ref _) rfl wt_6_194 wt_6_196 ws_3_10 wt_1_13 wt_6_197 ⟨rfl, hy_X12_needs⟩ ⟨rfl, rfl⟩ ⟨Nat.le_of_ble_eq_true rfl, Nat.le_of_ble_eq_true rfl⟩ rfl hl.1 rfl (Nat.le_of_ble_eq_true rfl) dX12_comparesHere_66 rfl (fun H locs hP hS => ?_)
  refine lv_aload_n hx hb dX12_comparesHere_69 rfl (lv_at hl 0 rfl) ?_
  obtain ⟨r_19, m_20, hc_21, h⟩ := bd_some h
  refine c_V (rest := []) X hP hS (tX12_valueHere hI  hc_21) (by decide) (L_ref _) rfl wt_6_222 wt_6_224 ws_4_1 wt_1_13 wt_6_225 ⟨rfl, hy_X12_valueHere⟩ ⟨rfl, rfl⟩ ⟨Nat.le_of_ble_eq_true rfl, Nat.le_of_ble_eq_true rfl⟩ rfl hl.1 rfl (Nat.le_of_ble_eq_true rfl) dX12_comparesHere_70 rfl (fun H locs hP hS => ?_)
  refine lv_istore_n (lv' := [(3, .int r_19), (0, .ref (A 0)), (1, .int x1), (2, .int x2)]) hx hb dX12_comparesHere_73 rfl hl (by decide) rfl (fun ls hl => ?_)
  refine lv_aload_n hx hb dX12_comparesHere_74 rfl (lv_at hl 1 rfl) ?_
  refine lv_iload_n hx hb dX12_comparesHere_75 rfl (lv_at hl 3 rfl) ?_
  refine lv_iload_n hx hb dX12_comparesHere_76 rfl (lv_at hl 2 rfl) ?_
  refine lv_iload_n hx hb dX12_comparesHere_77 rfl (lv_at hl 0 rfl) ?_
  obtain ⟨r_22, m_23, hc_24, h⟩ := bd_some h
  refine c_V (rest := []) X hP hS (tX12_steps hI  hc_24) (by decide) (L_ref _) rfl wt_6_230 wt_6_232 ws_4_3 wt_1_13 wt_6_233 ⟨rfl, hy_X12_steps⟩ ⟨rfl, rfl⟩ ⟨Nat.le_of_ble_eq_true rfl, Nat.le_of_ble_eq_true rfl⟩ rfl hl.1 rfl (Nat.le_of_ble_eq_true rfl) dX12_comparesHere_78 rfl (fun H locs hP hS => ?_)
  exact r_vret X hP hS dX12_comparesHere_81 h

def fX12_comparesHere_32  (x1 : Int32) (s0 : Int32) (m : Mm) : Option (Int32 × Mm) := bd (fX12_isByte (60 : Int32) m) fun r_12 m_13 => (if r_12 = 0 then bd (fX12_isByte (61 : Int32) m_13) fun r_25 m_26 => (if r_25 = 0 then bd (fX12_isByte (62 : Int32) m_26) fun r_29 m_30 => (if r_29 = 0 then (fX12_comparesHere_66  x1 s0 0 m_30) else (fX12_comparesHere_66  x1 s0 1 m_30)) else (fX12_comparesHere_66  x1 s0 1 m_26)) else (fX12_comparesHere_66  x1 s0 1 m_13))
set_option maxHeartbeats 4000000 in
set_option maxRecDepth 100000 in
theorem tX12_comparesHere_32 (hI : InjA rN A)  {r : Int32} {m' : Mm} (X : CX rLay rN D cA A p s m0 args meth c "BenchTowelsModel" cX12_comparesHere 4 none) : ∀ (x1 : Int32) (s0 : Int32) (m : Mm) (H : Heap) (locs : List Loc) (ls : Array Slot), fX12_comparesHere_32 x1 s0 m = some (r, m') → va_P D vwCl (wsOf rLay rN cA A m) H → va_S (AW rN A) s.heap H locs → lv_has ls 4 [(0, .ref (A 0)), (1, .int x1)] → W p l e { frames := 4, cells := 0, slots := 0, locals := 88 } s m0 args below meth c H locs 0 0 (ZR below args s rLay rN D cA A none m') (F0 m0 32 ls [.int s0]) := by
  have hx := X.1
  have hb := X.2.1
  have hml := X.2.2.1
  have hown := X.2.2.2.1
  have hts := X.2.2.2.2.1
  have hF := X.2.2.2.2.2.2.2.2.1
  intro x1 s0 m H locs ls h hP hS hl
  rewrite [fX12_comparesHere_32] at h
  refine lv_istore_n (lv' := [(2, .int s0), (0, .ref (A 0)), (1, .int x1)]) hx hb dX12_comparesHere_32 rfl hl (by decide) rfl (fun ls hl => ?_)
  refine lv_aload_n hx hb dX12_comparesHere_33 rfl (lv_at hl 1 rfl) ?_
  refine lv_aload_n hx hb dX12_comparesHere_34 rfl (lv_at hl 1 rfl) ?_
  refine lv_bipush (v := 60) hx hb dX12_comparesHere_35 (by decide) ?_
  obtain ⟨r_12, m_13, hc_14, h⟩ := bd_some h
  refine c_V (rest := [.ref (A 0)]) X hP hS (tX12_isByte hI  hc_14) (by decide) (L_ref _) rfl wt_6_214 wt_6_216 ws_3_15 wt_1_13 wt_6_217 ⟨rfl, hy_X12_isByte⟩ ⟨rfl, rfl⟩ ⟨Nat.le_of_ble_eq_true rfl, Nat.le_of_ble_eq_true rfl⟩ rfl hl.1 rfl (Nat.le_of_ble_eq_true rfl) dX12_comparesHere_37 rfl (fun H locs hP hS => ?_)
  refine lv_if_ne (tgt := 61) hx hb dX12_comparesHere_40 (by decide) (fun c_15 => ?_) (fun c_15 => ?_)
  · have h := ifn c_15 h
    refine lv_iconst (v := 1) hx hb dX12_comparesHere_61 (by decide) ?_
    refine lv_goto (tgt := 66) hx hb dX12_comparesHere_62 (by decide) ?_
    exact tX12_comparesHere_66 hI    X x1 s0 1 m_13 _ _ _  h hP hS (lv_sub hl [1, 2, 0] rfl)
  · have h := ifp c_15 h
    refine lv_aload_n hx hb dX12_comparesHere_43 rfl (lv_at hl 1 rfl) ?_
    refine lv_bipush (v := 61) hx hb dX12_comparesHere_44 (by decide) ?_
    obtain ⟨r_25, m_26, hc_27, h⟩ := bd_some h
    refine c_V (rest := [.ref (A 0)]) X hP hS (tX12_isByte hI  hc_27) (by decide) (L_ref _) rfl wt_6_214 wt_6_216 ws_3_15 wt_1_13 wt_6_217 ⟨rfl, hy_X12_isByte⟩ ⟨rfl, rfl⟩ ⟨Nat.le_of_ble_eq_true rfl, Nat.le_of_ble_eq_true rfl⟩ rfl hl.1 rfl (Nat.le_of_ble_eq_true rfl) dX12_comparesHere_46 rfl (fun H locs hP hS => ?_)
    refine lv_if_ne (tgt := 61) hx hb dX12_comparesHere_49 (by decide) (fun c_28 => ?_) (fun c_28 => ?_)
    · have h := ifn c_28 h
      refine lv_iconst (v := 1) hx hb dX12_comparesHere_61 (by decide) ?_
      refine lv_goto (tgt := 66) hx hb dX12_comparesHere_62 (by decide) ?_
      exact tX12_comparesHere_66 hI    X x1 s0 1 m_26 _ _ _  h hP hS (lv_sub hl [1, 2, 0] rfl)
    · have h := ifp c_28 h
      refine lv_aload_n hx hb dX12_comparesHere_52 rfl (lv_at hl 1 rfl) ?_
      refine lv_bipush (v := 62) hx hb dX12_comparesHere_53 (by decide) ?_
      obtain ⟨r_29, m_30, hc_31, h⟩ := bd_some h
      refine c_V (rest := [.ref (A 0)]) X hP hS (tX12_isByte hI  hc_31) (by decide) (L_ref _) rfl wt_6_214 wt_6_216 ws_3_15 wt_1_13 wt_6_217 ⟨rfl, hy_X12_isByte⟩ ⟨rfl, rfl⟩ ⟨Nat.le_of_ble_eq_true rfl, Nat.le_of_ble_eq_true rfl⟩ rfl hl.1 rfl (Nat.le_of_ble_eq_true rfl) dX12_comparesHere_55 rfl (fun H locs hP hS => ?_)
      refine lv_if_eq (tgt := 65) hx hb dX12_comparesHere_58 (by decide) (fun c_32 => ?_) (fun c_32 => ?_)
      · have h := ifp c_32 h
        refine lv_iconst (v := 0) hx hb dX12_comparesHere_65 (by decide) ?_
        exact tX12_comparesHere_66 hI    X x1 s0 0 m_30 _ _ _  h hP hS (lv_sub hl [1, 2, 0] rfl)
      · have h := ifn c_32 h
        refine lv_iconst (v := 1) hx hb dX12_comparesHere_61 (by decide) ?_
        refine lv_goto (tgt := 66) hx hb dX12_comparesHere_62 (by decide) ?_
        exact tX12_comparesHere_66 hI    X x1 s0 1 m_30 _ _ _  h hP hS (lv_sub hl [1, 2, 0] rfl)

def fX12_comparesHere  (m : Mm) : Option (Int32 × Mm) := bd (fX12_valueHere m) fun r_1 m_2 => bd (fX12_isByte (60 : Int32) m_2) fun r_4 m_5 => (if r_4 = 0 then bd (fX12_isByte (61 : Int32) m_5) fun r_8 m_9 => (if r_8 = 0 then (fX12_comparesHere_32  r_1 2 m_9) else (fX12_comparesHere_32  r_1 1 m_9)) else (fX12_comparesHere_32  r_1 0 m_5))
set_option maxHeartbeats 4000000 in
set_option maxRecDepth 100000 in
theorem tX12_comparesHere {l : Launch} {D : va_G} {cA : Nat → ClassId} {A : Nat → Nat} (hI : InjA rN A) {m m' : Mm} {r : Int32} (h : fX12_comparesHere m = some (r, m')) : Met0 l yX12_comparesHere cX12_comparesHere 4 none { frames := 4, cells := 0, slots := 0, locals := 88 } rLay rN D cA A [.ref (A 0)] m none m' := by
  refine met0_of (by decide) (Nat.le_of_ble_eq_true rfl) hI ?_
  intro p e s m0 below meth c ls X hinit hP hS hl
  generalize ([.ref (A 0)] : List Value).toArray = args at X ⊢
  have hl : lv_has ls 4 [(0, .ref (A 0))] := hl
  have X : CX rLay rN D cA A p s m0 args meth c "BenchTowelsModel" cX12_comparesHere 4 none := X
  have hx := X.1
  have hb := X.2.1
  have hml := X.2.2.1
  have hown := X.2.2.2.1
  have hts := X.2.2.2.2.1
  have hF := X.2.2.2.2.2.2.2.2.1
  rewrite [fX12_comparesHere] at h
  refine lv_aload_n hx hb dX12_comparesHere_0 rfl (lv_at hl 0 rfl) ?_
  obtain ⟨r_1, m_2, hc_3, h⟩ := bd_some h
  refine c_V (rest := []) X hP hS (tX12_valueHere hI  hc_3) (by decide) (L_ref _) rfl wt_6_222 wt_6_224 ws_4_1 wt_1_13 wt_6_225 ⟨rfl, hy_X12_valueHere⟩ ⟨rfl, rfl⟩ ⟨Nat.le_of_ble_eq_true rfl, Nat.le_of_ble_eq_true rfl⟩ rfl hl.1 rfl (Nat.le_of_ble_eq_true rfl) dX12_comparesHere_1 rfl (fun H locs hP hS => ?_)
  refine lv_istore_n (lv' := [(1, .int r_1), (0, .ref (A 0))]) hx hb dX12_comparesHere_4 rfl hl (by decide) rfl (fun ls hl => ?_)
  refine lv_aload_n hx hb dX12_comparesHere_5 rfl (lv_at hl 1 rfl) ?_
  refine lv_bipush (v := 60) hx hb dX12_comparesHere_6 (by decide) ?_
  obtain ⟨r_4, m_5, hc_6, h⟩ := bd_some h
  refine c_V (rest := []) X hP hS (tX12_isByte hI  hc_6) (by decide) (L_ref _) rfl wt_6_214 wt_6_216 ws_3_15 wt_1_13 wt_6_217 ⟨rfl, hy_X12_isByte⟩ ⟨rfl, rfl⟩ ⟨Nat.le_of_ble_eq_true rfl, Nat.le_of_ble_eq_true rfl⟩ rfl hl.1 rfl (Nat.le_of_ble_eq_true rfl) dX12_comparesHere_8 rfl (fun H locs hP hS => ?_)
  refine lv_if_eq (tgt := 18) hx hb dX12_comparesHere_11 (by decide) (fun c_7 => ?_) (fun c_7 => ?_)
  · have h := ifp c_7 h
    refine lv_aload_n hx hb dX12_comparesHere_18 rfl (lv_at hl 1 rfl) ?_
    refine lv_bipush (v := 61) hx hb dX12_comparesHere_19 (by decide) ?_
    obtain ⟨r_8, m_9, hc_10, h⟩ := bd_some h
    refine c_V (rest := []) X hP hS (tX12_isByte hI  hc_10) (by decide) (L_ref _) rfl wt_6_214 wt_6_216 ws_3_15 wt_1_13 wt_6_217 ⟨rfl, hy_X12_isByte⟩ ⟨rfl, rfl⟩ ⟨Nat.le_of_ble_eq_true rfl, Nat.le_of_ble_eq_true rfl⟩ rfl hl.1 rfl (Nat.le_of_ble_eq_true rfl) dX12_comparesHere_21 rfl (fun H locs hP hS => ?_)
    refine lv_if_eq (tgt := 31) hx hb dX12_comparesHere_24 (by decide) (fun c_11 => ?_) (fun c_11 => ?_)
    · have h := ifp c_11 h
      refine lv_iconst (v := 2) hx hb dX12_comparesHere_31 (by decide) ?_
      exact tX12_comparesHere_32 hI    X r_1 2 m_9 _ _ _  h hP hS (lv_sub hl [1, 0] rfl)
    · have h := ifn c_11 h
      refine lv_iconst (v := 1) hx hb dX12_comparesHere_27 (by decide) ?_
      refine lv_goto (tgt := 32) hx hb dX12_comparesHere_28 (by decide) ?_
      exact tX12_comparesHere_32 hI    X r_1 1 m_9 _ _ _  h hP hS (lv_sub hl [1, 0] rfl)
  · have h := ifn c_7 h
    refine lv_iconst (v := 0) hx hb dX12_comparesHere_14 (by decide) ?_
    refine lv_goto (tgt := 32) hx hb dX12_comparesHere_15 (by decide) ?_
    exact tX12_comparesHere_32 hI    X r_1 0 m_5 _ _ _  h hP hS (lv_sub hl [1, 0] rfl)

def fX12_oneHere_116 (rec : Mm → Option (Int32 × Mm)) (x1 : Int32) (m : Mm) : Option (Int32 × Mm) := (if (x1 - x1 / 2 * 2) = 1 then bd (fX12_steps (3 : Int32) (0 : Int32) (0 : Int32) m) fun r_5 m_6 => some (0, m_6) else some (0, m))
set_option maxHeartbeats 4000000 in
set_option maxRecDepth 100000 in
theorem tX12_oneHere_116 {Fr Lr : Nat} (hI : InjA rN A)  {rec : Mm → Option (Int32 × Mm)} (hrec : ∀ (m : Mm) (r : Int32) (m' : Mm), rec  m = some (r, m') → Met0 l yX12_condHere cX12_condHere 1 none { frames := Fr, cells := 0, slots := 0, locals := Lr } rLay rN D cA A [.ref (A 0)] m none m') {r : Int32} {m' : Mm} (X : CX rLay rN D cA A p s m0 args meth c "BenchTowelsModel" cX12_oneHere 2 none) : ∀ (x1 : Int32) (m : Mm) (H : Heap) (locs : List Loc) (ls : Array Slot), fX12_oneHere_116 rec x1 m = some (r, m') → va_P D vwCl (wsOf rLay rN cA A m) H → va_S (AW rN A) s.heap H locs → lv_has ls 2 [(0, .ref (A 0)), (1, .int x1)] → W p l e { frames := Fr + 5, cells := 0, slots := 0, locals := Lr + 111 } s m0 args below meth c H locs 0 0 (ZR below args s rLay rN D cA A none m') (F0 m0 116 ls []) := by
  have hx := X.1
  have hb := X.2.1
  have hml := X.2.2.1
  have hown := X.2.2.2.1
  have hts := X.2.2.2.2.1
  have hF := X.2.2.2.2.2.2.2.2.1
  intro x1 m H locs ls h hP hS hl
  rewrite [fX12_oneHere_116] at h
  refine lv_iload_n hx hb dX12_oneHere_116 rfl (lv_at hl 1 rfl) ?_
  refine lv_iconst (v := 2) hx hb dX12_oneHere_117 (by decide) ?_
  refine lv_irem hx hb dX12_oneHere_118 (by decide) ?_
  refine lv_iconst (v := 1) hx hb dX12_oneHere_119 (by decide) ?_
  refine lv_icmp_ne (tgt := 130) hx hb dX12_oneHere_120 (by decide) (fun c_4 => ?_) (fun c_4 => ?_)
  · have h := ifn c_4 h
    exact r_vret X hP hS dX12_oneHere_130 h
  · have h := ifp c_4 h
    refine lv_aload_n hx hb dX12_oneHere_123 rfl (lv_at hl 0 rfl) ?_
    refine lv_iconst (v := 3) hx hb dX12_oneHere_124 (by decide) ?_
    refine lv_iconst (v := 0) hx hb dX12_oneHere_125 (by decide) ?_
    refine lv_iconst (v := 0) hx hb dX12_oneHere_126 (by decide) ?_
    obtain ⟨r_5, m_6, hc_7, h⟩ := bd_some h
    refine c_V (rest := []) X hP hS (tX12_steps hI  hc_7) (by decide) (L_ref _) rfl wt_6_230 wt_6_232 ws_4_3 wt_1_13 wt_6_233 ⟨rfl, hy_X12_steps⟩ ⟨rfl, rfl⟩ ⟨by dsimp only; omega, by dsimp only; omega⟩ rfl hl.1 rfl (Nat.le_of_ble_eq_true rfl) dX12_oneHere_127 rfl (fun H locs hP hS => ?_)
    exact r_vret X hP hS dX12_oneHere_130 h

def fX12_oneHere_105 (rec : Mm → Option (Int32 × Mm)) (x1 : Int32) (m : Mm) : Option (Int32 × Mm) := (if (m 0 10) = 0 then bd (fX12_comparesHere m) fun r_8 m_9 => (fX12_oneHere_116 rec x1 m_9) else fX12_oneHere_116 rec x1 m)
set_option maxHeartbeats 4000000 in
set_option maxRecDepth 100000 in
theorem tX12_oneHere_105 {Fr Lr : Nat} (hI : InjA rN A)  {rec : Mm → Option (Int32 × Mm)} (hrec : ∀ (m : Mm) (r : Int32) (m' : Mm), rec  m = some (r, m') → Met0 l yX12_condHere cX12_condHere 1 none { frames := Fr, cells := 0, slots := 0, locals := Lr } rLay rN D cA A [.ref (A 0)] m none m') {r : Int32} {m' : Mm} (X : CX rLay rN D cA A p s m0 args meth c "BenchTowelsModel" cX12_oneHere 2 none) : ∀ (x1 : Int32) (m : Mm) (H : Heap) (locs : List Loc) (ls : Array Slot), fX12_oneHere_105 rec x1 m = some (r, m') → va_P D vwCl (wsOf rLay rN cA A m) H → va_S (AW rN A) s.heap H locs → lv_has ls 2 [(0, .ref (A 0)), (1, .int x1)] → W p l e { frames := Fr + 5, cells := 0, slots := 0, locals := Lr + 111 } s m0 args below meth c H locs 0 0 (ZR below args s rLay rN D cA A none m') (F0 m0 105 ls []) := by
  have hx := X.1
  have hb := X.2.1
  have hml := X.2.2.1
  have hown := X.2.2.2.1
  have hts := X.2.2.2.2.1
  have hF := X.2.2.2.2.2.2.2.2.1
  intro x1 m H locs ls h hP hS hl
  rewrite [fX12_oneHere_105] at h
  refine lv_aload_n hx hb dX12_oneHere_105 rfl (lv_at hl 0 rfl) ?_
  refine r_get kc_12 10 X hP (by decide) (L_ref _) (by decide) rfl wt_5_182 dX12_oneHere_106 ?_
  refine lv_if_ne (tgt := 116) hx hb dX12_oneHere_109 (by decide) (fun c_3 => ?_) (fun c_3 => ?_)
  · have h := ifn c_3 h
    exact tX12_oneHere_116 hI  hrec  X x1 m _ _ _  h hP hS (lv_sub hl [0, 1] rfl)
  · have h := ifp c_3 h
    refine lv_aload_n hx hb dX12_oneHere_112 rfl (lv_at hl 0 rfl) ?_
    obtain ⟨r_8, m_9, hc_10, h⟩ := bd_some h
    refine c_V (rest := []) X hP hS (tX12_comparesHere hI  hc_10) (by decide) (L_ref _) rfl wt_6_218 wt_6_220 ws_4_0 wt_1_13 wt_6_221 ⟨rfl, hy_X12_comparesHere⟩ ⟨rfl, rfl⟩ ⟨by dsimp only; omega, by dsimp only; omega⟩ rfl hl.1 rfl (Nat.le_of_ble_eq_true rfl) dX12_oneHere_113 rfl (fun H locs hP hS => ?_)
    exact tX12_oneHere_116 hI  hrec  X x1 m_9 _ _ _  h hP hS (lv_sub hl [0, 1] rfl)

def fX12_oneHere_65 (rec : Mm → Option (Int32 × Mm)) (x1 : Int32) (s0 : Int32) (m : Mm) : Option (Int32 × Mm) := bd (fX12_needs s0 m) fun r_16 m_17 => lt (up m_17 0 11 ((m_17 0 11) + 1)) fun m_19 => bd (rec m_19) fun r_21 m_22 => bd (fX12_isByte (41 : Int32) m_22) fun r_24 m_25 => bd (fX12_needs r_24 m_25) fun r_27 m_28 => lt (up m_28 0 11 ((m_28 0 11) - 1)) fun m_30 => (fX12_oneHere_116 rec x1 m_30)
set_option maxHeartbeats 4000000 in
set_option maxRecDepth 100000 in
theorem tX12_oneHere_65 {Fr Lr : Nat} (hI : InjA rN A)  {rec : Mm → Option (Int32 × Mm)} (hrec : ∀ (m : Mm) (r : Int32) (m' : Mm), rec  m = some (r, m') → Met0 l yX12_condHere cX12_condHere 1 none { frames := Fr, cells := 0, slots := 0, locals := Lr } rLay rN D cA A [.ref (A 0)] m none m') {r : Int32} {m' : Mm} (X : CX rLay rN D cA A p s m0 args meth c "BenchTowelsModel" cX12_oneHere 2 none) : ∀ (x1 : Int32) (s0 : Int32) (m : Mm) (H : Heap) (locs : List Loc) (ls : Array Slot), fX12_oneHere_65 rec x1 s0 m = some (r, m') → va_P D vwCl (wsOf rLay rN cA A m) H → va_S (AW rN A) s.heap H locs → lv_has ls 2 [(0, .ref (A 0)), (1, .int x1)] → W p l e { frames := Fr + 5, cells := 0, slots := 0, locals := Lr + 111 } s m0 args below meth c H locs 0 0 (ZR below args s rLay rN D cA A none m') (F0 m0 65 ls [.int s0, .ref (A 0)]) := by
  have hx := X.1
  have hb := X.2.1
  have hml := X.2.2.1
  have hown := X.2.2.2.1
  have hts := X.2.2.2.2.1
  have hF := X.2.2.2.2.2.2.2.2.1
  intro x1 s0 m H locs ls h hP hS hl
  rewrite [fX12_oneHere_65] at h
  obtain ⟨r_16, m_17, hc_18, h⟩ := bd_some h
  refine c_V (rest := []) X hP hS (tX12_needs hI  hc_18) (by decide) (L_ref _) rfl wt_6_194 wt_6_196 ws_3_10 wt_1_13 wt_6_197 ⟨rfl, hy_X12_needs⟩ ⟨rfl, rfl⟩ ⟨by dsimp only; omega, by dsimp only; omega⟩ rfl hl.1 rfl (Nat.le_of_ble_eq_true rfl) dX12_oneHere_65 rfl (fun H locs hP hS => ?_)
  refine lv_aload_n hx hb dX12_oneHere_68 rfl (lv_at hl 0 rfl) ?_
  refine lv_dup hx hb dX12_oneHere_69 rfl ?_
  refine r_get kc_12 11 X hP (by decide) (L_ref _) (by decide) rfl wt_5_183 dX12_oneHere_70 ?_
  refine lv_iconst (v := 1) hx hb dX12_oneHere_73 (by decide) ?_
  refine lv_iadd hx hb dX12_oneHere_74 ?_
  obtain ⟨m_19, em_20, h⟩ := lt_some h
  refine r_put kc_12 11 X hP hS (by decide) (L_ref _) (L_ref _) (by decide) wt_5_183 rfl (by decide +kernel) (Nat.le_of_ble_eq_true rfl) dX12_oneHere_75 em_20 (fun H locs hP hS => ?_)
  refine lv_aload_n hx hb dX12_oneHere_78 rfl (lv_at hl 0 rfl) ?_
  obtain ⟨r_21, m_22, hc_23, h⟩ := bd_some h
  refine c_V (rest := []) X hP hS (hrec  _ _ _ hc_23) (by decide) (L_ref _) rfl wt_6_202 wt_6_204 ws_3_12 wt_1_13 wt_6_205 ⟨rfl, hy_X12_condHere⟩ ⟨rfl, rfl⟩ ⟨by dsimp only; omega, by dsimp only; omega⟩ rfl hl.1 rfl (Nat.le_of_ble_eq_true rfl) dX12_oneHere_79 rfl (fun H locs hP hS => ?_)
  refine lv_aload_n hx hb dX12_oneHere_82 rfl (lv_at hl 0 rfl) ?_
  refine lv_aload_n hx hb dX12_oneHere_83 rfl (lv_at hl 0 rfl) ?_
  refine lv_bipush (v := 41) hx hb dX12_oneHere_84 (by decide) ?_
  obtain ⟨r_24, m_25, hc_26, h⟩ := bd_some h
  refine c_V (rest := [.ref (A 0)]) X hP hS (tX12_isByte hI  hc_26) (by decide) (L_ref _) rfl wt_6_214 wt_6_216 ws_3_15 wt_1_13 wt_6_217 ⟨rfl, hy_X12_isByte⟩ ⟨rfl, rfl⟩ ⟨by dsimp only; omega, by dsimp only; omega⟩ rfl hl.1 rfl (Nat.le_of_ble_eq_true rfl) dX12_oneHere_86 rfl (fun H locs hP hS => ?_)
  obtain ⟨r_27, m_28, hc_29, h⟩ := bd_some h
  refine c_V (rest := []) X hP hS (tX12_needs hI  hc_29) (by decide) (L_ref _) rfl wt_6_194 wt_6_196 ws_3_10 wt_1_13 wt_6_197 ⟨rfl, hy_X12_needs⟩ ⟨rfl, rfl⟩ ⟨by dsimp only; omega, by dsimp only; omega⟩ rfl hl.1 rfl (Nat.le_of_ble_eq_true rfl) dX12_oneHere_89 rfl (fun H locs hP hS => ?_)
  refine lv_aload_n hx hb dX12_oneHere_92 rfl (lv_at hl 0 rfl) ?_
  refine lv_dup hx hb dX12_oneHere_93 rfl ?_
  refine r_get kc_12 11 X hP (by decide) (L_ref _) (by decide) rfl wt_5_183 dX12_oneHere_94 ?_
  refine lv_iconst (v := 1) hx hb dX12_oneHere_97 (by decide) ?_
  refine lv_isub hx hb dX12_oneHere_98 ?_
  obtain ⟨m_30, em_31, h⟩ := lt_some h
  refine r_put kc_12 11 X hP hS (by decide) (L_ref _) (L_ref _) (by decide) wt_5_183 rfl (by decide +kernel) (Nat.le_of_ble_eq_true rfl) dX12_oneHere_99 em_31 (fun H locs hP hS => ?_)
  refine lv_goto (tgt := 116) hx hb dX12_oneHere_102 (by decide) ?_
  exact tX12_oneHere_116 hI  hrec  X x1 m_30 _ _ _  h hP hS (lv_sub hl [0, 1] rfl)

def fX12_oneHere_35 (rec : Mm → Option (Int32 × Mm)) (x1 : Int32) (m : Mm) : Option (Int32 × Mm) := (if (m 0 10) = 0 then bd (fX12_isByte (40 : Int32) m) fun r_11 m_12 => (if r_11 = 0 then fX12_oneHere_105 rec x1 m_12 else (if (3 : Int32) ≤ (m_12 0 11) then (fX12_oneHere_65 rec x1 0 m_12) else (fX12_oneHere_65 rec x1 1 m_12))) else fX12_oneHere_105 rec x1 m)
set_option maxHeartbeats 4000000 in
set_option maxRecDepth 100000 in
theorem tX12_oneHere_35 {Fr Lr : Nat} (hI : InjA rN A)  {rec : Mm → Option (Int32 × Mm)} (hrec : ∀ (m : Mm) (r : Int32) (m' : Mm), rec  m = some (r, m') → Met0 l yX12_condHere cX12_condHere 1 none { frames := Fr, cells := 0, slots := 0, locals := Lr } rLay rN D cA A [.ref (A 0)] m none m') {r : Int32} {m' : Mm} (X : CX rLay rN D cA A p s m0 args meth c "BenchTowelsModel" cX12_oneHere 2 none) : ∀ (x1 : Int32) (m : Mm) (H : Heap) (locs : List Loc) (ls : Array Slot), fX12_oneHere_35 rec x1 m = some (r, m') → va_P D vwCl (wsOf rLay rN cA A m) H → va_S (AW rN A) s.heap H locs → lv_has ls 2 [(0, .ref (A 0)), (1, .int x1)] → W p l e { frames := Fr + 5, cells := 0, slots := 0, locals := Lr + 111 } s m0 args below meth c H locs 0 0 (ZR below args s rLay rN D cA A none m') (F0 m0 35 ls []) := by
  have hx := X.1
  have hb := X.2.1
  have hml := X.2.2.1
  have hown := X.2.2.2.1
  have hts := X.2.2.2.2.1
  have hF := X.2.2.2.2.2.2.2.2.1
  intro x1 m H locs ls h hP hS hl
  rewrite [fX12_oneHere_35] at h
  refine lv_aload_n hx hb dX12_oneHere_35 rfl (lv_at hl 0 rfl) ?_
  refine r_get kc_12 10 X hP (by decide) (L_ref _) (by decide) rfl wt_5_182 dX12_oneHere_36 ?_
  refine lv_if_ne (tgt := 105) hx hb dX12_oneHere_39 (by decide) (fun c_2 => ?_) (fun c_2 => ?_)
  · have h := ifn c_2 h
    exact tX12_oneHere_105 hI  hrec  X x1 m _ _ _  h hP hS (lv_sub hl [0, 1] rfl)
  · have h := ifp c_2 h
    refine lv_aload_n hx hb dX12_oneHere_42 rfl (lv_at hl 0 rfl) ?_
    refine lv_bipush (v := 40) hx hb dX12_oneHere_43 (by decide) ?_
    obtain ⟨r_11, m_12, hc_13, h⟩ := bd_some h
    refine c_V (rest := []) X hP hS (tX12_isByte hI  hc_13) (by decide) (L_ref _) rfl wt_6_214 wt_6_216 ws_3_15 wt_1_13 wt_6_217 ⟨rfl, hy_X12_isByte⟩ ⟨rfl, rfl⟩ ⟨by dsimp only; omega, by dsimp only; omega⟩ rfl hl.1 rfl (Nat.le_of_ble_eq_true rfl) dX12_oneHere_45 rfl (fun H locs hP hS => ?_)
    refine lv_if_eq (tgt := 105) hx hb dX12_oneHere_48 (by decide) (fun c_14 => ?_) (fun c_14 => ?_)
    · have h := ifp c_14 h
      exact tX12_oneHere_105 hI  hrec  X x1 m_12 _ _ _  h hP hS (lv_sub hl [0, 1] rfl)
    · have h := ifn c_14 h
      refine lv_aload_n hx hb dX12_oneHere_51 rfl (lv_at hl 0 rfl) ?_
      refine lv_aload_n hx hb dX12_oneHere_52 rfl (lv_at hl 0 rfl) ?_
      refine r_get kc_12 11 X hP (by decide) (L_ref _) (by decide) rfl wt_5_183 dX12_oneHere_53 ?_
      refine lv_iconst (v := 3) hx hb dX12_oneHere_56 (by decide) ?_
      refine lv_icmp_ge (tgt := 64) hx hb dX12_oneHere_57 (by decide) (fun c_15 => ?_) (fun c_15 => ?_)
      · have h := ifp c_15 h
        refine lv_iconst (v := 0) hx hb dX12_oneHere_64 (by decide) ?_
        exact tX12_oneHere_65 hI  hrec  X x1 0 m_12 _ _ _  h hP hS (lv_sub hl [0, 1] rfl)
      · have h := ifn c_15 h
        refine lv_iconst (v := 1) hx hb dX12_oneHere_60 (by decide) ?_
        refine lv_goto (tgt := 65) hx hb dX12_oneHere_61 (by decide) ?_
        exact tX12_oneHere_65 hI  hrec  X x1 1 m_12 _ _ _  h hP hS (lv_sub hl [0, 1] rfl)

def fX12_oneHere_2 (rec : Mm → Option (Int32 × Mm)) : Nat → Int32 → Mm → Option (Int32 × Mm)
  | 0, _, _ => none
  | n + 1, x1, m => (if (m 0 10) = 0 then bd (fX12_isName (3 : Int32) (110 : Int32) (111 : Int32) (116 : Int32) (116 : Int32) m) fun r_32 m_33 => (if r_32 = 0 then fX12_oneHere_35 rec x1 m_33 else lt ((x1 : Int32) + 1) fun x1_36 => bd (fX12_nextToken m_33) fun r_38 m_39 => (fX12_oneHere_2 rec n x1_36 m_39)) else fX12_oneHere_35 rec x1 m)
set_option maxHeartbeats 4000000 in
set_option maxRecDepth 100000 in
theorem tX12_oneHere_2 {Fr Lr : Nat} (hI : InjA rN A)  {rec : Mm → Option (Int32 × Mm)} (hrec : ∀ (m : Mm) (r : Int32) (m' : Mm), rec  m = some (r, m') → Met0 l yX12_condHere cX12_condHere 1 none { frames := Fr, cells := 0, slots := 0, locals := Lr } rLay rN D cA A [.ref (A 0)] m none m') {r : Int32} {m' : Mm} (X : CX rLay rN D cA A p s m0 args meth c "BenchTowelsModel" cX12_oneHere 2 none) : ∀ (n : Nat) (x1 : Int32) (m : Mm) (H : Heap) (locs : List Loc) (ls : Array Slot), fX12_oneHere_2 rec n x1 m = some (r, m') → va_P D vwCl (wsOf rLay rN cA A m) H → va_S (AW rN A) s.heap H locs → lv_has ls 2 [(0, .ref (A 0)), (1, .int x1)] → W p l e { frames := Fr + 5, cells := 0, slots := 0, locals := Lr + 111 } s m0 args below meth c H locs 0 0 (ZR below args s rLay rN D cA A none m') (F0 m0 2 ls []) := by
  have hx := X.1
  have hb := X.2.1
  have hml := X.2.2.1
  have hown := X.2.2.2.1
  have hts := X.2.2.2.2.1
  have hF := X.2.2.2.2.2.2.2.2.1
  intro n
  induction n with
  | zero =>
    intro x1 m H locs ls h hP hS hl
    exact absurd h (by rewrite [fX12_oneHere_2]; exact fun q => by cases q)
  | succ n ih =>
    intro x1 m H locs ls h hP hS hl
    rewrite [fX12_oneHere_2] at h
    refine lv_aload_n hx hb dX12_oneHere_2 rfl (lv_at hl 0 rfl) ?_
    refine r_get kc_12 10 X hP (by decide) (L_ref _) (by decide) rfl wt_5_182 dX12_oneHere_3 ?_
    refine lv_if_ne (tgt := 35) hx hb dX12_oneHere_6 (by decide) (fun c_1 => ?_) (fun c_1 => ?_)
    · have h := ifn c_1 h
      exact tX12_oneHere_35 hI  hrec  X x1 m _ _ _  h hP hS (lv_sub hl [0, 1] rfl)
    · have h := ifp c_1 h
      refine lv_aload_n hx hb dX12_oneHere_9 rfl (lv_at hl 0 rfl) ?_
      refine lv_iconst (v := 3) hx hb dX12_oneHere_10 (by decide) ?_
      refine lv_bipush (v := 110) hx hb dX12_oneHere_11 (by decide) ?_
      refine lv_bipush (v := 111) hx hb dX12_oneHere_13 (by decide) ?_
      refine lv_bipush (v := 116) hx hb dX12_oneHere_15 (by decide) ?_
      refine lv_bipush (v := 116) hx hb dX12_oneHere_17 (by decide) ?_
      obtain ⟨r_32, m_33, hc_34, h⟩ := bd_some h
      refine c_V (rest := []) X hP hS (tX12_isName hI  hc_34) (by decide) (L_ref _) rfl wt_6_186 wt_6_188 ws_3_8 wt_1_13 wt_6_189 ⟨rfl, hy_X12_isName⟩ ⟨rfl, rfl⟩ ⟨by dsimp only; omega, by dsimp only; omega⟩ rfl hl.1 rfl (Nat.le_of_ble_eq_true rfl) dX12_oneHere_19 rfl (fun H locs hP hS => ?_)
      refine lv_if_eq (tgt := 35) hx hb dX12_oneHere_22 (by decide) (fun c_35 => ?_) (fun c_35 => ?_)
      · have h := ifp c_35 h
        exact tX12_oneHere_35 hI  hrec  X x1 m_33 _ _ _  h hP hS (lv_sub hl [0, 1] rfl)
      · have h := ifn c_35 h
        obtain ⟨x1_36, ex_37, h⟩ := lt_some h
        refine lv_iinc (v := x1_36) (lv' := [(1, .int x1_36), (0, .ref (A 0))]) hx hb dX12_oneHere_25 hl (k := 1) rfl (by rw [ex_37]; rfl) (by decide) rfl (fun ls hl => ?_)
        refine lv_aload_n hx hb dX12_oneHere_28 rfl (lv_at hl 1 rfl) ?_
        obtain ⟨r_38, m_39, hc_40, h⟩ := bd_some h
        refine c_V (rest := []) X hP hS (tX12_nextToken hI  hc_40) (by decide) (L_ref _) rfl wt_6_164 wt_6_166 ws_3_4 wt_1_13 wt_6_167 ⟨rfl, hy_X12_nextToken⟩ ⟨rfl, rfl⟩ ⟨by dsimp only; omega, by dsimp only; omega⟩ rfl hl.1 rfl (Nat.le_of_ble_eq_true rfl) dX12_oneHere_29 rfl (fun H locs hP hS => ?_)
        refine lv_goto (tgt := 2) hx hb dX12_oneHere_32 (by decide) ?_
        exact ih x1_36 m_39 _ _ _  h hP hS (lv_sub hl [1, 0] rfl)

def fX12_oneHere (rec : Mm → Option (Int32 × Mm)) (m : Mm) : Option (Int32 × Mm) := (fX12_oneHere_2 rec FL 0 m)
set_option maxHeartbeats 4000000 in
set_option maxRecDepth 100000 in
theorem tX12_oneHere {l : Launch} {D : va_G} {cA : Nat → ClassId} {A : Nat → Nat} {Fr Lr : Nat} (hI : InjA rN A) {rec : Mm → Option (Int32 × Mm)} (hrec : ∀ (m : Mm) (r : Int32) (m' : Mm), rec  m = some (r, m') → Met0 l yX12_condHere cX12_condHere 1 none { frames := Fr, cells := 0, slots := 0, locals := Lr } rLay rN D cA A [.ref (A 0)] m none m') {m m' : Mm} {r : Int32} (h : fX12_oneHere rec m = some (r, m')) : Met0 l yX12_oneHere cX12_oneHere 2 none { frames := Fr + 5, cells := 0, slots := 0, locals := Lr + 111 } rLay rN D cA A [.ref (A 0)] m none m' := by
  refine met0_of (by decide) (Nat.le_of_ble_eq_true rfl) hI ?_
  intro p e s m0 below meth c ls X hinit hP hS hl
  generalize ([.ref (A 0)] : List Value).toArray = args at X ⊢
  have hl : lv_has ls 2 [(0, .ref (A 0))] := hl
  have X : CX rLay rN D cA A p s m0 args meth c "BenchTowelsModel" cX12_oneHere 2 none := X
  have hx := X.1
  have hb := X.2.1
  have hml := X.2.2.1
  have hown := X.2.2.2.1
  have hts := X.2.2.2.2.1
  have hF := X.2.2.2.2.2.2.2.2.1
  rewrite [fX12_oneHere] at h
  refine lv_iconst (v := 0) hx hb dX12_oneHere_0 (by decide) ?_
  refine lv_istore_n (lv' := [(1, .int 0), (0, .ref (A 0))]) hx hb dX12_oneHere_1 rfl hl (by decide) rfl (fun ls hl => ?_)
  exact tX12_oneHere_2 hI  hrec  X FL 0 m _ _ _  h hP hS (lv_sub hl [1, 0] rfl)

def fX12_allHere_4 (rec : Mm → Option (Int32 × Mm)) : Nat → Mm → Option (Int32 × Mm)
  | 0, _ => none
  | n + 1, m => (if (m 0 10) = 0 then bd (fX12_isName (3 : Int32) (97 : Int32) (110 : Int32) (100 : Int32) (100 : Int32) m) fun r_5 m_6 => (if r_5 = 0 then some (0, m_6) else bd (fX12_nextToken m_6) fun r_9 m_10 => bd (fX12_oneHere rec m_10) fun r_12 m_13 => bd (fX12_steps (4 : Int32) (0 : Int32) (0 : Int32) m_13) fun r_15 m_16 => (fX12_allHere_4 rec n m_16)) else some (0, m))
set_option maxHeartbeats 4000000 in
set_option maxRecDepth 100000 in
theorem tX12_allHere_4 {Fr Lr : Nat} (hI : InjA rN A)  {rec : Mm → Option (Int32 × Mm)} (hrec : ∀ (m : Mm) (r : Int32) (m' : Mm), rec  m = some (r, m') → Met0 l yX12_condHere cX12_condHere 1 none { frames := Fr, cells := 0, slots := 0, locals := Lr } rLay rN D cA A [.ref (A 0)] m none m') {r : Int32} {m' : Mm} (X : CX rLay rN D cA A p s m0 args meth c "BenchTowelsModel" cX12_allHere 1 none) : ∀ (n : Nat)  (m : Mm) (H : Heap) (locs : List Loc) (ls : Array Slot), fX12_allHere_4 rec n  m = some (r, m') → va_P D vwCl (wsOf rLay rN cA A m) H → va_S (AW rN A) s.heap H locs → lv_has ls 1 [(0, .ref (A 0))] → W p l e { frames := Fr + 6, cells := 0, slots := 0, locals := Lr + 132 } s m0 args below meth c H locs 0 0 (ZR below args s rLay rN D cA A none m') (F0 m0 4 ls []) := by
  have hx := X.1
  have hb := X.2.1
  have hml := X.2.2.1
  have hown := X.2.2.2.1
  have hts := X.2.2.2.2.1
  have hF := X.2.2.2.2.2.2.2.2.1
  intro n
  induction n with
  | zero =>
    intro m H locs ls h hP hS hl
    exact absurd h (by rewrite [fX12_allHere_4]; exact fun q => by cases q)
  | succ n ih =>
    intro m H locs ls h hP hS hl
    rewrite [fX12_allHere_4] at h
    refine lv_aload_n hx hb dX12_allHere_4 rfl (lv_at hl 0 rfl) ?_
    refine r_get kc_12 10 X hP (by decide) (L_ref _) (by decide) rfl wt_5_182 dX12_allHere_5 ?_
    refine lv_if_ne (tgt := 45) hx hb dX12_allHere_8 (by decide) (fun c_4 => ?_) (fun c_4 => ?_)
    · have h := ifn c_4 h
      exact r_vret X hP hS dX12_allHere_45 h
    · have h := ifp c_4 h
      refine lv_aload_n hx hb dX12_allHere_11 rfl (lv_at hl 0 rfl) ?_
      refine lv_iconst (v := 3) hx hb dX12_allHere_12 (by decide) ?_
      refine lv_bipush (v := 97) hx hb dX12_allHere_13 (by decide) ?_
      refine lv_bipush (v := 110) hx hb dX12_allHere_15 (by decide) ?_
      refine lv_bipush (v := 100) hx hb dX12_allHere_17 (by decide) ?_
      refine lv_bipush (v := 100) hx hb dX12_allHere_19 (by decide) ?_
      obtain ⟨r_5, m_6, hc_7, h⟩ := bd_some h
      refine c_V (rest := []) X hP hS (tX12_isName hI  hc_7) (by decide) (L_ref _) rfl wt_6_186 wt_6_188 ws_3_8 wt_1_13 wt_6_189 ⟨rfl, hy_X12_isName⟩ ⟨rfl, rfl⟩ ⟨by dsimp only; omega, by dsimp only; omega⟩ rfl hl.1 rfl (Nat.le_of_ble_eq_true rfl) dX12_allHere_21 rfl (fun H locs hP hS => ?_)
      refine lv_if_eq (tgt := 45) hx hb dX12_allHere_24 (by decide) (fun c_8 => ?_) (fun c_8 => ?_)
      · have h := ifp c_8 h
        exact r_vret X hP hS dX12_allHere_45 h
      · have h := ifn c_8 h
        refine lv_aload_n hx hb dX12_allHere_27 rfl (lv_at hl 0 rfl) ?_
        obtain ⟨r_9, m_10, hc_11, h⟩ := bd_some h
        refine c_V (rest := []) X hP hS (tX12_nextToken hI  hc_11) (by decide) (L_ref _) rfl wt_6_164 wt_6_166 ws_3_4 wt_1_13 wt_6_167 ⟨rfl, hy_X12_nextToken⟩ ⟨rfl, rfl⟩ ⟨by dsimp only; omega, by dsimp only; omega⟩ rfl hl.1 rfl (Nat.le_of_ble_eq_true rfl) dX12_allHere_28 rfl (fun H locs hP hS => ?_)
        refine lv_aload_n hx hb dX12_allHere_31 rfl (lv_at hl 0 rfl) ?_
        obtain ⟨r_12, m_13, hc_14, h⟩ := bd_some h
        refine c_V (rest := []) X hP hS (tX12_oneHere hI  hrec hc_14) (by decide) (L_ref _) rfl wt_6_210 wt_6_212 ws_3_14 wt_1_13 wt_6_213 ⟨rfl, hy_X12_oneHere⟩ ⟨rfl, rfl⟩ ⟨by dsimp only; omega, by dsimp only; omega⟩ rfl hl.1 rfl (Nat.le_of_ble_eq_true rfl) dX12_allHere_32 rfl (fun H locs hP hS => ?_)
        refine lv_aload_n hx hb dX12_allHere_35 rfl (lv_at hl 0 rfl) ?_
        refine lv_iconst (v := 4) hx hb dX12_allHere_36 (by decide) ?_
        refine lv_iconst (v := 0) hx hb dX12_allHere_37 (by decide) ?_
        refine lv_iconst (v := 0) hx hb dX12_allHere_38 (by decide) ?_
        obtain ⟨r_15, m_16, hc_17, h⟩ := bd_some h
        refine c_V (rest := []) X hP hS (tX12_steps hI  hc_17) (by decide) (L_ref _) rfl wt_6_230 wt_6_232 ws_4_3 wt_1_13 wt_6_233 ⟨rfl, hy_X12_steps⟩ ⟨rfl, rfl⟩ ⟨by dsimp only; omega, by dsimp only; omega⟩ rfl hl.1 rfl (Nat.le_of_ble_eq_true rfl) dX12_allHere_39 rfl (fun H locs hP hS => ?_)
        refine lv_goto (tgt := 4) hx hb dX12_allHere_42 (by decide) ?_
        exact ih m_16 _ _ _  h hP hS (lv_sub hl [0] rfl)

def fX12_allHere (rec : Mm → Option (Int32 × Mm)) (m : Mm) : Option (Int32 × Mm) := bd (fX12_oneHere rec m) fun r_1 m_2 => (fX12_allHere_4 rec FL m_2)
set_option maxHeartbeats 4000000 in
set_option maxRecDepth 100000 in
theorem tX12_allHere {l : Launch} {D : va_G} {cA : Nat → ClassId} {A : Nat → Nat} {Fr Lr : Nat} (hI : InjA rN A) {rec : Mm → Option (Int32 × Mm)} (hrec : ∀ (m : Mm) (r : Int32) (m' : Mm), rec  m = some (r, m') → Met0 l yX12_condHere cX12_condHere 1 none { frames := Fr, cells := 0, slots := 0, locals := Lr } rLay rN D cA A [.ref (A 0)] m none m') {m m' : Mm} {r : Int32} (h : fX12_allHere rec m = some (r, m')) : Met0 l yX12_allHere cX12_allHere 1 none { frames := Fr + 6, cells := 0, slots := 0, locals := Lr + 132 } rLay rN D cA A [.ref (A 0)] m none m' := by
  refine met0_of (by decide) (Nat.le_of_ble_eq_true rfl) hI ?_
  intro p e s m0 below meth c ls X hinit hP hS hl
  generalize ([.ref (A 0)] : List Value).toArray = args at X ⊢
  have hl : lv_has ls 1 [(0, .ref (A 0))] := hl
  have X : CX rLay rN D cA A p s m0 args meth c "BenchTowelsModel" cX12_allHere 1 none := X
  have hx := X.1
  have hb := X.2.1
  have hml := X.2.2.1
  have hown := X.2.2.2.1
  have hts := X.2.2.2.2.1
  have hF := X.2.2.2.2.2.2.2.2.1
  rewrite [fX12_allHere] at h
  refine lv_aload_n hx hb dX12_allHere_0 rfl (lv_at hl 0 rfl) ?_
  obtain ⟨r_1, m_2, hc_3, h⟩ := bd_some h
  refine c_V (rest := []) X hP hS (tX12_oneHere hI  hrec hc_3) (by decide) (L_ref _) rfl wt_6_210 wt_6_212 ws_3_14 wt_1_13 wt_6_213 ⟨rfl, hy_X12_oneHere⟩ ⟨rfl, rfl⟩ ⟨by dsimp only; omega, by dsimp only; omega⟩ rfl hl.1 rfl (Nat.le_of_ble_eq_true rfl) dX12_allHere_1 rfl (fun H locs hP hS => ?_)
  exact tX12_allHere_4 hI  hrec  X FL m_2 _ _ _  h hP hS (lv_sub hl [0] rfl)

def fX12_condHere_4 (rec : Mm → Option (Int32 × Mm)) : Nat → Mm → Option (Int32 × Mm)
  | 0, _ => none
  | n + 1, m => (if (m 0 10) = 0 then bd (fX12_isTwo (111 : Int32) (114 : Int32) m) fun r_5 m_6 => (if r_5 = 0 then some (0, m_6) else bd (fX12_nextToken m_6) fun r_9 m_10 => bd (fX12_allHere rec m_10) fun r_12 m_13 => bd (fX12_steps (5 : Int32) (0 : Int32) (0 : Int32) m_13) fun r_15 m_16 => (fX12_condHere_4 rec n m_16)) else some (0, m))
set_option maxHeartbeats 4000000 in
set_option maxRecDepth 100000 in
theorem tX12_condHere_4 {Fr Lr : Nat} (hI : InjA rN A)  {rec : Mm → Option (Int32 × Mm)} (hrec : ∀ (m : Mm) (r : Int32) (m' : Mm), rec  m = some (r, m') → Met0 l yX12_condHere cX12_condHere 1 none { frames := Fr, cells := 0, slots := 0, locals := Lr } rLay rN D cA A [.ref (A 0)] m none m') {r : Int32} {m' : Mm} (X : CX rLay rN D cA A p s m0 args meth c "BenchTowelsModel" cX12_condHere 1 none) : ∀ (n : Nat)  (m : Mm) (H : Heap) (locs : List Loc) (ls : Array Slot), fX12_condHere_4 rec n  m = some (r, m') → va_P D vwCl (wsOf rLay rN cA A m) H → va_S (AW rN A) s.heap H locs → lv_has ls 1 [(0, .ref (A 0))] → W p l e { frames := Fr + 7, cells := 0, slots := 0, locals := Lr + 152 } s m0 args below meth c H locs 0 0 (ZR below args s rLay rN D cA A none m') (F0 m0 4 ls []) := by
  have hx := X.1
  have hb := X.2.1
  have hml := X.2.2.1
  have hown := X.2.2.2.1
  have hts := X.2.2.2.2.1
  have hF := X.2.2.2.2.2.2.2.2.1
  intro n
  induction n with
  | zero =>
    intro m H locs ls h hP hS hl
    exact absurd h (by rewrite [fX12_condHere_4]; exact fun q => by cases q)
  | succ n ih =>
    intro m H locs ls h hP hS hl
    rewrite [fX12_condHere_4] at h
    refine lv_aload_n hx hb dX12_condHere_4 rfl (lv_at hl 0 rfl) ?_
    refine r_get kc_12 10 X hP (by decide) (L_ref _) (by decide) rfl wt_5_182 dX12_condHere_5 ?_
    refine lv_if_ne (tgt := 40) hx hb dX12_condHere_8 (by decide) (fun c_4 => ?_) (fun c_4 => ?_)
    · have h := ifn c_4 h
      exact r_vret X hP hS dX12_condHere_40 h
    · have h := ifp c_4 h
      refine lv_aload_n hx hb dX12_condHere_11 rfl (lv_at hl 0 rfl) ?_
      refine lv_bipush (v := 111) hx hb dX12_condHere_12 (by decide) ?_
      refine lv_bipush (v := 114) hx hb dX12_condHere_14 (by decide) ?_
      obtain ⟨r_5, m_6, hc_7, h⟩ := bd_some h
      refine c_V (rest := []) X hP hS (tX12_isTwo hI  hc_7) (by decide) (L_ref _) rfl wt_6_198 wt_6_200 ws_3_11 wt_1_13 wt_6_201 ⟨rfl, hy_X12_isTwo⟩ ⟨rfl, rfl⟩ ⟨by dsimp only; omega, by dsimp only; omega⟩ rfl hl.1 rfl (Nat.le_of_ble_eq_true rfl) dX12_condHere_16 rfl (fun H locs hP hS => ?_)
      refine lv_if_eq (tgt := 40) hx hb dX12_condHere_19 (by decide) (fun c_8 => ?_) (fun c_8 => ?_)
      · have h := ifp c_8 h
        exact r_vret X hP hS dX12_condHere_40 h
      · have h := ifn c_8 h
        refine lv_aload_n hx hb dX12_condHere_22 rfl (lv_at hl 0 rfl) ?_
        obtain ⟨r_9, m_10, hc_11, h⟩ := bd_some h
        refine c_V (rest := []) X hP hS (tX12_nextToken hI  hc_11) (by decide) (L_ref _) rfl wt_6_164 wt_6_166 ws_3_4 wt_1_13 wt_6_167 ⟨rfl, hy_X12_nextToken⟩ ⟨rfl, rfl⟩ ⟨by dsimp only; omega, by dsimp only; omega⟩ rfl hl.1 rfl (Nat.le_of_ble_eq_true rfl) dX12_condHere_23 rfl (fun H locs hP hS => ?_)
        refine lv_aload_n hx hb dX12_condHere_26 rfl (lv_at hl 0 rfl) ?_
        obtain ⟨r_12, m_13, hc_14, h⟩ := bd_some h
        refine c_V (rest := []) X hP hS (tX12_allHere hI  hrec hc_14) (by decide) (L_ref _) rfl wt_6_206 wt_6_208 ws_3_13 wt_1_13 wt_6_209 ⟨rfl, hy_X12_allHere⟩ ⟨rfl, rfl⟩ ⟨by dsimp only; omega, by dsimp only; omega⟩ rfl hl.1 rfl (Nat.le_of_ble_eq_true rfl) dX12_condHere_27 rfl (fun H locs hP hS => ?_)
        refine lv_aload_n hx hb dX12_condHere_30 rfl (lv_at hl 0 rfl) ?_
        refine lv_iconst (v := 5) hx hb dX12_condHere_31 (by decide) ?_
        refine lv_iconst (v := 0) hx hb dX12_condHere_32 (by decide) ?_
        refine lv_iconst (v := 0) hx hb dX12_condHere_33 (by decide) ?_
        obtain ⟨r_15, m_16, hc_17, h⟩ := bd_some h
        refine c_V (rest := []) X hP hS (tX12_steps hI  hc_17) (by decide) (L_ref _) rfl wt_6_230 wt_6_232 ws_4_3 wt_1_13 wt_6_233 ⟨rfl, hy_X12_steps⟩ ⟨rfl, rfl⟩ ⟨by dsimp only; omega, by dsimp only; omega⟩ rfl hl.1 rfl (Nat.le_of_ble_eq_true rfl) dX12_condHere_34 rfl (fun H locs hP hS => ?_)
        refine lv_goto (tgt := 4) hx hb dX12_condHere_37 (by decide) ?_
        exact ih m_16 _ _ _  h hP hS (lv_sub hl [0] rfl)

def fX12_condHere (rec : Mm → Option (Int32 × Mm)) (m : Mm) : Option (Int32 × Mm) := bd (fX12_allHere rec m) fun r_1 m_2 => (fX12_condHere_4 rec FL m_2)
set_option maxHeartbeats 4000000 in
set_option maxRecDepth 100000 in
theorem tX12_condHere {l : Launch} {D : va_G} {cA : Nat → ClassId} {A : Nat → Nat} {Fr Lr : Nat} (hI : InjA rN A) {rec : Mm → Option (Int32 × Mm)} (hrec : ∀ (m : Mm) (r : Int32) (m' : Mm), rec  m = some (r, m') → Met0 l yX12_condHere cX12_condHere 1 none { frames := Fr, cells := 0, slots := 0, locals := Lr } rLay rN D cA A [.ref (A 0)] m none m') {m m' : Mm} {r : Int32} (h : fX12_condHere rec m = some (r, m')) : Met0 l yX12_condHere cX12_condHere 1 none { frames := Fr + 7, cells := 0, slots := 0, locals := Lr + 152 } rLay rN D cA A [.ref (A 0)] m none m' := by
  refine met0_of (by decide) (Nat.le_of_ble_eq_true rfl) hI ?_
  intro p e s m0 below meth c ls X hinit hP hS hl
  generalize ([.ref (A 0)] : List Value).toArray = args at X ⊢
  have hl : lv_has ls 1 [(0, .ref (A 0))] := hl
  have X : CX rLay rN D cA A p s m0 args meth c "BenchTowelsModel" cX12_condHere 1 none := X
  have hx := X.1
  have hb := X.2.1
  have hml := X.2.2.1
  have hown := X.2.2.2.1
  have hts := X.2.2.2.2.1
  have hF := X.2.2.2.2.2.2.2.2.1
  rewrite [fX12_condHere] at h
  refine lv_aload_n hx hb dX12_condHere_0 rfl (lv_at hl 0 rfl) ?_
  obtain ⟨r_1, m_2, hc_3, h⟩ := bd_some h
  refine c_V (rest := []) X hP hS (tX12_allHere hI  hrec hc_3) (by decide) (L_ref _) rfl wt_6_206 wt_6_208 ws_3_13 wt_1_13 wt_6_209 ⟨rfl, hy_X12_allHere⟩ ⟨rfl, rfl⟩ ⟨by dsimp only; omega, by dsimp only; omega⟩ rfl hl.1 rfl (Nat.le_of_ble_eq_true rfl) dX12_condHere_1 rfl (fun H locs hP hS => ?_)
  exact tX12_condHere_4 hI  hrec  X FL m_2 _ _ _  h hP hS (lv_sub hl [0] rfl)
def rX12_condHere : Nat → Mm → Option (Int32 × Mm)
  | 0, _ => none
  | n + 1, m => fX12_condHere (rX12_condHere n)  m
theorem tr0X12_condHere {l : Launch} {D : va_G} {cA : Nat → ClassId} {A : Nat → Nat} (hI : InjA rN A) : ∀ (n : Nat) (m : Mm) (r : Int32) (m' : Mm), rX12_condHere n  m = some (r, m') → Met0 l yX12_condHere cX12_condHere 1 none { frames := 7 * n, cells := 0, slots := 0, locals := 152 * n } rLay rN D cA A [.ref (A 0)] m none m' := by
  intro n
  induction n with
  | zero =>
    intro  m r m' h
    exact absurd h (by rewrite [rX12_condHere]; exact fun q => by cases q)
  | succ n ih =>
    intro  m r m' h
    rewrite [rX12_condHere] at h
    exact tX12_condHere (Fr := 7 * n) (Lr := 152 * n) hI  ih h
theorem trX12_condHere {l : Launch} {D : va_G} {cA : Nat → ClassId} {A : Nat → Nat} (hI : InjA rN A) (n : Nat) (m : Mm) (r : Int32) (m' : Mm) (h : rX12_condHere n  m = some (r, m')) : Met0 l yX12_condHere cX12_condHere 1 none { frames := 7 * n, cells := 0, slots := 0, locals := 152 * n } rLay rN D cA A [.ref (A 0)] m none m' := tr0X12_condHere hI n  m r m' h

def fX12_ruleHere_97  (x1 : Int32) (x2 : Int32) (x3 : Int32) (x4 : Int32) (s0 : Int32) (m : Mm) : Option (Int32 × Mm) := bd (fX12_needs s0 m) fun r_17 m_18 => bd (fX12_isByte (59 : Int32) m_18) fun r_20 m_21 => bd (fX12_needs r_20 m_21) fun r_23 m_24 => (if (m_24 0 10) = 0 then gx x1 553 (lt (up m_24 1 (ix x1) x2) fun m_28 => gx (x1 + 1) 553 (lt (up m_28 1 (ix (x1 + 1)) x4) fun m_31 => gx (x1 + 2) 553 (lt (up m_31 1 (ix (x1 + 2)) x3) fun m_34 => gx (x1 + 3) 553 (lt (up m_34 1 (ix (x1 + 3)) (m_34 1 7)) fun m_37 => lt (up m_37 1 5 ((m_37 1 5) + 1)) fun m_39 => some (0, m_39))))) else some (0, m_24))
set_option maxHeartbeats 4000000 in
set_option maxRecDepth 100000 in
theorem tX12_ruleHere_97 (hI : InjA rN A)  {r : Int32} {m' : Mm} (X : CX rLay rN D cA A p s m0 args meth c "BenchTowelsModel" cX12_ruleHere 5 none) : ∀ (x1 : Int32) (x2 : Int32) (x3 : Int32) (x4 : Int32) (s0 : Int32) (m : Mm) (H : Heap) (locs : List Loc) (ls : Array Slot), fX12_ruleHere_97 x1 x2 x3 x4 s0 m = some (r, m') → va_P D vwCl (wsOf rLay rN cA A m) H → va_S (AW rN A) s.heap H locs → lv_has ls 5 [(0, .ref (A 0)), (1, .int x1), (2, .int x2), (3, .int x3), (4, .int x4)] → W p l e { frames := 64, cells := 0, slots := 0, locals := 1388 } s m0 args below meth c H locs 0 0 (ZR below args s rLay rN D cA A none m') (F0 m0 97 ls [.int s0, .ref (A 0)]) := by
  have hx := X.1
  have hb := X.2.1
  have hml := X.2.2.1
  have hown := X.2.2.2.1
  have hts := X.2.2.2.2.1
  have hF := X.2.2.2.2.2.2.2.2.1
  intro x1 x2 x3 x4 s0 m H locs ls h hP hS hl
  rewrite [fX12_ruleHere_97] at h
  obtain ⟨r_17, m_18, hc_19, h⟩ := bd_some h
  refine c_V (rest := []) X hP hS (tX12_needs hI  hc_19) (by decide) (L_ref _) rfl wt_6_194 wt_6_196 ws_3_10 wt_1_13 wt_6_197 ⟨rfl, hy_X12_needs⟩ ⟨rfl, rfl⟩ ⟨Nat.le_of_ble_eq_true rfl, Nat.le_of_ble_eq_true rfl⟩ rfl hl.1 rfl (Nat.le_of_ble_eq_true rfl) dX12_ruleHere_97 rfl (fun H locs hP hS => ?_)
  refine lv_aload_n hx hb dX12_ruleHere_100 rfl (lv_at hl 0 rfl) ?_
  refine lv_aload_n hx hb dX12_ruleHere_101 rfl (lv_at hl 0 rfl) ?_
  refine lv_bipush (v := 59) hx hb dX12_ruleHere_102 (by decide) ?_
  obtain ⟨r_20, m_21, hc_22, h⟩ := bd_some h
  refine c_V (rest := [.ref (A 0)]) X hP hS (tX12_isByte hI  hc_22) (by decide) (L_ref _) rfl wt_6_214 wt_6_216 ws_3_15 wt_1_13 wt_6_217 ⟨rfl, hy_X12_isByte⟩ ⟨rfl, rfl⟩ ⟨Nat.le_of_ble_eq_true rfl, Nat.le_of_ble_eq_true rfl⟩ rfl hl.1 rfl (Nat.le_of_ble_eq_true rfl) dX12_ruleHere_104 rfl (fun H locs hP hS => ?_)
  obtain ⟨r_23, m_24, hc_25, h⟩ := bd_some h
  refine c_V (rest := []) X hP hS (tX12_needs hI  hc_25) (by decide) (L_ref _) rfl wt_6_194 wt_6_196 ws_3_10 wt_1_13 wt_6_197 ⟨rfl, hy_X12_needs⟩ ⟨rfl, rfl⟩ ⟨Nat.le_of_ble_eq_true rfl, Nat.le_of_ble_eq_true rfl⟩ rfl hl.1 rfl (Nat.le_of_ble_eq_true rfl) dX12_ruleHere_107 rfl (fun H locs hP hS => ?_)
  refine lv_aload_n hx hb dX12_ruleHere_110 rfl (lv_at hl 0 rfl) ?_
  refine r_get kc_12 10 X hP (by decide) (L_ref _) (by decide) rfl wt_5_182 dX12_ruleHere_111 ?_
  refine lv_if_ne (tgt := 168) hx hb dX12_ruleHere_114 (by decide) (fun c_26 => ?_) (fun c_26 => ?_)
  · have h := ifn c_26 h
    exact r_vret X hP hS dX12_ruleHere_168 h
  · have h := ifp c_26 h
    refine lv_aload_n hx hb dX12_ruleHere_117 rfl (lv_at hl 0 rfl) ?_
    refine r_get kc_12 0 X hP (by decide) (L_ref _) (by decide) rfl wt_5_172 dX12_ruleHere_118 ?_
    refine lv_iload_n hx hb dX12_ruleHere_121 rfl (lv_at hl 1 rfl) ?_
    refine lv_iload_n hx hb dX12_ruleHere_122 rfl (lv_at hl 2 rfl) ?_
    obtain ⟨hin_27, h⟩ := gx_some h
    obtain ⟨m_28, em_29, h⟩ := lt_some h
    refine r_iast X hP hS (by decide) Lr_1 hin_27 rfl dX12_ruleHere_123 em_29 (fun H locs hP hS => ?_)
    refine lv_aload_n hx hb dX12_ruleHere_124 rfl (lv_at hl 0 rfl) ?_
    refine r_get kc_12 0 X hP (by decide) (L_ref _) (by decide) rfl wt_5_172 dX12_ruleHere_125 ?_
    refine lv_iload_n hx hb dX12_ruleHere_128 rfl (lv_at hl 1 rfl) ?_
    refine lv_iconst (v := 1) hx hb dX12_ruleHere_129 (by decide) ?_
    refine lv_iadd hx hb dX12_ruleHere_130 ?_
    refine lv_iload hx hb dX12_ruleHere_131 (lv_at hl 4 rfl) ?_
    obtain ⟨hin_30, h⟩ := gx_some h
    obtain ⟨m_31, em_32, h⟩ := lt_some h
    refine r_iast X hP hS (by decide) Lr_1 hin_30 rfl dX12_ruleHere_133 em_32 (fun H locs hP hS => ?_)
    refine lv_aload_n hx hb dX12_ruleHere_134 rfl (lv_at hl 0 rfl) ?_
    refine r_get kc_12 0 X hP (by decide) (L_ref _) (by decide) rfl wt_5_172 dX12_ruleHere_135 ?_
    refine lv_iload_n hx hb dX12_ruleHere_138 rfl (lv_at hl 1 rfl) ?_
    refine lv_iconst (v := 2) hx hb dX12_ruleHere_139 (by decide) ?_
    refine lv_iadd hx hb dX12_ruleHere_140 ?_
    refine lv_iload_n hx hb dX12_ruleHere_141 rfl (lv_at hl 3 rfl) ?_
    obtain ⟨hin_33, h⟩ := gx_some h
    obtain ⟨m_34, em_35, h⟩ := lt_some h
    refine r_iast X hP hS (by decide) Lr_1 hin_33 rfl dX12_ruleHere_142 em_35 (fun H locs hP hS => ?_)
    refine lv_aload_n hx hb dX12_ruleHere_143 rfl (lv_at hl 0 rfl) ?_
    refine r_get kc_12 0 X hP (by decide) (L_ref _) (by decide) rfl wt_5_172 dX12_ruleHere_144 ?_
    refine lv_iload_n hx hb dX12_ruleHere_147 rfl (lv_at hl 1 rfl) ?_
    refine lv_iconst (v := 3) hx hb dX12_ruleHere_148 (by decide) ?_
    refine lv_iadd hx hb dX12_ruleHere_149 ?_
    refine lv_aload_n hx hb dX12_ruleHere_150 rfl (lv_at hl 0 rfl) ?_
    refine r_get kc_12 0 X hP (by decide) (L_ref _) (by decide) rfl wt_5_172 dX12_ruleHere_151 ?_
    refine lv_bipush (v := 7) hx hb dX12_ruleHere_154 (by decide) ?_
    refine r_iald X hP (by decide) (Lr_1 _) (vpc (by decide)) ixc_7 dX12_ruleHere_156 ?_
    obtain ⟨hin_36, h⟩ := gx_some h
    obtain ⟨m_37, em_38, h⟩ := lt_some h
    refine r_iast X hP hS (by decide) Lr_1 hin_36 rfl dX12_ruleHere_157 em_38 (fun H locs hP hS => ?_)
    refine lv_aload_n hx hb dX12_ruleHere_158 rfl (lv_at hl 0 rfl) ?_
    refine r_get kc_12 0 X hP (by decide) (L_ref _) (by decide) rfl wt_5_172 dX12_ruleHere_159 ?_
    refine lv_iconst (v := 5) hx hb dX12_ruleHere_162 (by decide) ?_
    refine lv_dup2_11 hx hb dX12_ruleHere_163 rfl rfl ?_
    refine r_iald X hP (by decide) (Lr_1 _) (vpc (by decide)) ixc_5 dX12_ruleHere_164 ?_
    refine lv_iconst (v := 1) hx hb dX12_ruleHere_165 (by decide) ?_
    refine lv_iadd hx hb dX12_ruleHere_166 ?_
    obtain ⟨m_39, em_40, h⟩ := lt_some h
    refine r_iast X hP hS (by decide) Lr_1 (vpc (by decide)) ixc_5 dX12_ruleHere_167 em_40 (fun H locs hP hS => ?_)
    exact r_vret X hP hS dX12_ruleHere_168 h

def fX12_ruleHere_80  (x1 : Int32) (x2 : Int32) (x3 : Int32) (m : Mm) : Option (Int32 × Mm) := bd (fX12_doHere m) fun r_13 m_14 => (if r_13 < 0 then (fX12_ruleHere_97  x1 x2 x3 r_13 0 m_14) else (fX12_ruleHere_97  x1 x2 x3 r_13 1 m_14))
set_option maxHeartbeats 4000000 in
set_option maxRecDepth 100000 in
theorem tX12_ruleHere_80 (hI : InjA rN A)  {r : Int32} {m' : Mm} (X : CX rLay rN D cA A p s m0 args meth c "BenchTowelsModel" cX12_ruleHere 5 none) : ∀ (x1 : Int32) (x2 : Int32) (x3 : Int32) (m : Mm) (H : Heap) (locs : List Loc) (ls : Array Slot), fX12_ruleHere_80 x1 x2 x3 m = some (r, m') → va_P D vwCl (wsOf rLay rN cA A m) H → va_S (AW rN A) s.heap H locs → lv_has ls 5 [(0, .ref (A 0)), (1, .int x1), (2, .int x2), (3, .int x3)] → W p l e { frames := 64, cells := 0, slots := 0, locals := 1388 } s m0 args below meth c H locs 0 0 (ZR below args s rLay rN D cA A none m') (F0 m0 80 ls []) := by
  have hx := X.1
  have hb := X.2.1
  have hml := X.2.2.1
  have hown := X.2.2.2.1
  have hts := X.2.2.2.2.1
  have hF := X.2.2.2.2.2.2.2.2.1
  intro x1 x2 x3 m H locs ls h hP hS hl
  rewrite [fX12_ruleHere_80] at h
  refine lv_aload_n hx hb dX12_ruleHere_80 rfl (lv_at hl 0 rfl) ?_
  obtain ⟨r_13, m_14, hc_15, h⟩ := bd_some h
  refine c_V (rest := []) X hP hS (tX12_doHere hI  hc_15) (by decide) (L_ref _) rfl wt_6_234 wt_6_236 ws_4_4 wt_1_13 wt_6_237 ⟨rfl, hy_X12_doHere⟩ ⟨rfl, rfl⟩ ⟨Nat.le_of_ble_eq_true rfl, Nat.le_of_ble_eq_true rfl⟩ rfl hl.1 rfl (Nat.le_of_ble_eq_true rfl) dX12_ruleHere_81 rfl (fun H locs hP hS => ?_)
  refine lv_istore (lv' := [(4, .int r_13), (0, .ref (A 0)), (1, .int x1), (2, .int x2), (3, .int x3)]) hx hb dX12_ruleHere_84 hl (by decide) rfl (fun ls hl => ?_)
  refine lv_aload_n hx hb dX12_ruleHere_86 rfl (lv_at hl 1 rfl) ?_
  refine lv_iload hx hb dX12_ruleHere_87 (lv_at hl 0 rfl) ?_
  refine lv_if_lt (tgt := 96) hx hb dX12_ruleHere_89 (by decide) (fun c_16 => ?_) (fun c_16 => ?_)
  · have h := ifp c_16 h
    refine lv_iconst (v := 0) hx hb dX12_ruleHere_96 (by decide) ?_
    exact tX12_ruleHere_97 hI    X x1 x2 x3 r_13 0 m_14 _ _ _  h hP hS (lv_sub hl [1, 2, 3, 4, 0] rfl)
  · have h := ifn c_16 h
    refine lv_iconst (v := 1) hx hb dX12_ruleHere_92 (by decide) ?_
    refine lv_goto (tgt := 97) hx hb dX12_ruleHere_93 (by decide) ?_
    exact tX12_ruleHere_97 hI    X x1 x2 x3 r_13 1 m_14 _ _ _  h hP hS (lv_sub hl [1, 2, 3, 4, 0] rfl)

def fX12_ruleHere_38  (x1 : Int32) (x2 : Int32) (s0 : Int32) (m : Mm) : Option (Int32 × Mm) := bd (fX12_needs s0 m) fun r_7 m_8 => lt (m_8 1 7) fun x3_10 => (if (m_8 0 10) = 0 then bd (fX12_isTwo (105 : Int32) (102 : Int32) m_8) fun r_41 m_42 => (if r_41 = 0 then fX12_ruleHere_80  x1 x2 x3_10 m_42 else bd (fX12_nextToken m_42) fun r_45 m_46 => lt (up m_46 0 11 0) fun m_48 => bd (rX12_condHere 9 m_48) fun r_50 m_51 => (fX12_ruleHere_80  x1 x2 x3_10 m_51)) else fX12_ruleHere_80  x1 x2 x3_10 m_8)
set_option maxHeartbeats 4000000 in
set_option maxRecDepth 100000 in
theorem tX12_ruleHere_38 (hI : InjA rN A)  {r : Int32} {m' : Mm} (X : CX rLay rN D cA A p s m0 args meth c "BenchTowelsModel" cX12_ruleHere 5 none) : ∀ (x1 : Int32) (x2 : Int32) (s0 : Int32) (m : Mm) (H : Heap) (locs : List Loc) (ls : Array Slot), fX12_ruleHere_38 x1 x2 s0 m = some (r, m') → va_P D vwCl (wsOf rLay rN cA A m) H → va_S (AW rN A) s.heap H locs → lv_has ls 5 [(0, .ref (A 0)), (1, .int x1), (2, .int x2)] → W p l e { frames := 64, cells := 0, slots := 0, locals := 1388 } s m0 args below meth c H locs 0 0 (ZR below args s rLay rN D cA A none m') (F0 m0 38 ls [.int s0, .ref (A 0)]) := by
  have hx := X.1
  have hb := X.2.1
  have hml := X.2.2.1
  have hown := X.2.2.2.1
  have hts := X.2.2.2.2.1
  have hF := X.2.2.2.2.2.2.2.2.1
  intro x1 x2 s0 m H locs ls h hP hS hl
  rewrite [fX12_ruleHere_38] at h
  obtain ⟨r_7, m_8, hc_9, h⟩ := bd_some h
  refine c_V (rest := []) X hP hS (tX12_needs hI  hc_9) (by decide) (L_ref _) rfl wt_6_194 wt_6_196 ws_3_10 wt_1_13 wt_6_197 ⟨rfl, hy_X12_needs⟩ ⟨rfl, rfl⟩ ⟨Nat.le_of_ble_eq_true rfl, Nat.le_of_ble_eq_true rfl⟩ rfl hl.1 rfl (Nat.le_of_ble_eq_true rfl) dX12_ruleHere_38 rfl (fun H locs hP hS => ?_)
  refine lv_aload_n hx hb dX12_ruleHere_41 rfl (lv_at hl 0 rfl) ?_
  refine r_get kc_12 0 X hP (by decide) (L_ref _) (by decide) rfl wt_5_172 dX12_ruleHere_42 ?_
  refine lv_bipush (v := 7) hx hb dX12_ruleHere_45 (by decide) ?_
  refine r_iald X hP (by decide) (Lr_1 _) (vpc (by decide)) ixc_7 dX12_ruleHere_47 ?_
  obtain ⟨x3_10, ex_11, h⟩ := lt_some h
  refine lv_ren ex_11 ?_
  refine lv_istore_n (lv' := [(3, .int x3_10), (0, .ref (A 0)), (1, .int x1), (2, .int x2)]) hx hb dX12_ruleHere_48 rfl hl (by decide) rfl (fun ls hl => ?_)
  refine lv_aload_n hx hb dX12_ruleHere_49 rfl (lv_at hl 1 rfl) ?_
  refine r_get kc_12 10 X hP (by decide) (L_ref _) (by decide) rfl wt_5_182 dX12_ruleHere_50 ?_
  refine lv_if_ne (tgt := 80) hx hb dX12_ruleHere_53 (by decide) (fun c_12 => ?_) (fun c_12 => ?_)
  · have h := ifn c_12 h
    exact tX12_ruleHere_80 hI    X x1 x2 x3_10 m_8 _ _ _  h hP hS (lv_sub hl [1, 2, 3, 0] rfl)
  · have h := ifp c_12 h
    refine lv_aload_n hx hb dX12_ruleHere_56 rfl (lv_at hl 1 rfl) ?_
    refine lv_bipush (v := 105) hx hb dX12_ruleHere_57 (by decide) ?_
    refine lv_bipush (v := 102) hx hb dX12_ruleHere_59 (by decide) ?_
    obtain ⟨r_41, m_42, hc_43, h⟩ := bd_some h
    refine c_V (rest := []) X hP hS (tX12_isTwo hI  hc_43) (by decide) (L_ref _) rfl wt_6_198 wt_6_200 ws_3_11 wt_1_13 wt_6_201 ⟨rfl, hy_X12_isTwo⟩ ⟨rfl, rfl⟩ ⟨Nat.le_of_ble_eq_true rfl, Nat.le_of_ble_eq_true rfl⟩ rfl hl.1 rfl (Nat.le_of_ble_eq_true rfl) dX12_ruleHere_61 rfl (fun H locs hP hS => ?_)
    refine lv_if_eq (tgt := 80) hx hb dX12_ruleHere_64 (by decide) (fun c_44 => ?_) (fun c_44 => ?_)
    · have h := ifp c_44 h
      exact tX12_ruleHere_80 hI    X x1 x2 x3_10 m_42 _ _ _  h hP hS (lv_sub hl [1, 2, 3, 0] rfl)
    · have h := ifn c_44 h
      refine lv_aload_n hx hb dX12_ruleHere_67 rfl (lv_at hl 1 rfl) ?_
      obtain ⟨r_45, m_46, hc_47, h⟩ := bd_some h
      refine c_V (rest := []) X hP hS (tX12_nextToken hI  hc_47) (by decide) (L_ref _) rfl wt_6_164 wt_6_166 ws_3_4 wt_1_13 wt_6_167 ⟨rfl, hy_X12_nextToken⟩ ⟨rfl, rfl⟩ ⟨Nat.le_of_ble_eq_true rfl, Nat.le_of_ble_eq_true rfl⟩ rfl hl.1 rfl (Nat.le_of_ble_eq_true rfl) dX12_ruleHere_68 rfl (fun H locs hP hS => ?_)
      refine lv_aload_n hx hb dX12_ruleHere_71 rfl (lv_at hl 1 rfl) ?_
      refine lv_iconst (v := 0) hx hb dX12_ruleHere_72 (by decide) ?_
      obtain ⟨m_48, em_49, h⟩ := lt_some h
      refine r_put kc_12 11 X hP hS (by decide) (L_ref _) (L_ref _) (by decide) wt_5_183 rfl (by decide +kernel) (Nat.le_of_ble_eq_true rfl) dX12_ruleHere_73 em_49 (fun H locs hP hS => ?_)
      refine lv_aload_n hx hb dX12_ruleHere_76 rfl (lv_at hl 1 rfl) ?_
      obtain ⟨r_50, m_51, hc_52, h⟩ := bd_some h
      refine c_V (rest := []) X hP hS (trX12_condHere hI  9  _ _ _ hc_52) (by decide) (L_ref _) rfl wt_6_202 wt_6_204 ws_3_12 wt_1_13 wt_6_205 ⟨rfl, hy_X12_condHere⟩ ⟨rfl, rfl⟩ ⟨Nat.le_of_ble_eq_true rfl, Nat.le_of_ble_eq_true rfl⟩ rfl hl.1 rfl (Nat.le_of_ble_eq_true rfl) dX12_ruleHere_77 rfl (fun H locs hP hS => ?_)
      exact tX12_ruleHere_80 hI    X x1 x2 x3_10 m_51 _ _ _  h hP hS (lv_sub hl [1, 2, 3, 0] rfl)

def fX12_ruleHere  (m : Mm) : Option (Int32 × Mm) := lt ((53 : Int32) + ((4 : Int32) * (m 1 5))) fun x1_1 => bd (fX12_kindHere m) fun r_3 m_4 => (if r_3 < 0 then (fX12_ruleHere_38  x1_1 r_3 0 m_4) else (if (8 : Int32) ≤ (m_4 1 5) then (fX12_ruleHere_38  x1_1 r_3 0 m_4) else (fX12_ruleHere_38  x1_1 r_3 1 m_4)))
set_option maxHeartbeats 4000000 in
set_option maxRecDepth 100000 in
theorem tX12_ruleHere {l : Launch} {D : va_G} {cA : Nat → ClassId} {A : Nat → Nat} (hI : InjA rN A) {m m' : Mm} {r : Int32} (h : fX12_ruleHere m = some (r, m')) : Met0 l yX12_ruleHere cX12_ruleHere 5 none { frames := 64, cells := 0, slots := 0, locals := 1388 } rLay rN D cA A [.ref (A 0)] m none m' := by
  refine met0_of (by decide) (Nat.le_of_ble_eq_true rfl) hI ?_
  intro p e s m0 below meth c ls X hinit hP hS hl
  generalize ([.ref (A 0)] : List Value).toArray = args at X ⊢
  have hl : lv_has ls 5 [(0, .ref (A 0))] := hl
  have X : CX rLay rN D cA A p s m0 args meth c "BenchTowelsModel" cX12_ruleHere 5 none := X
  have hx := X.1
  have hb := X.2.1
  have hml := X.2.2.1
  have hown := X.2.2.2.1
  have hts := X.2.2.2.2.1
  have hF := X.2.2.2.2.2.2.2.2.1
  rewrite [fX12_ruleHere] at h
  refine lv_bipush (v := 53) hx hb dX12_ruleHere_0 (by decide) ?_
  refine lv_iconst (v := 4) hx hb dX12_ruleHere_2 (by decide) ?_
  refine lv_aload_n hx hb dX12_ruleHere_3 rfl (lv_at hl 0 rfl) ?_
  refine r_get kc_12 0 X hP (by decide) (L_ref _) (by decide) rfl wt_5_172 dX12_ruleHere_4 ?_
  refine lv_iconst (v := 5) hx hb dX12_ruleHere_7 (by decide) ?_
  refine r_iald X hP (by decide) (Lr_1 _) (vpc (by decide)) ixc_5 dX12_ruleHere_8 ?_
  refine lv_imul hx hb dX12_ruleHere_9 ?_
  refine lv_iadd hx hb dX12_ruleHere_10 ?_
  obtain ⟨x1_1, ex_2, h⟩ := lt_some h
  refine lv_ren ex_2 ?_
  refine lv_istore_n (lv' := [(1, .int x1_1), (0, .ref (A 0))]) hx hb dX12_ruleHere_11 rfl hl (by decide) rfl (fun ls hl => ?_)
  refine lv_aload_n hx hb dX12_ruleHere_12 rfl (lv_at hl 1 rfl) ?_
  obtain ⟨r_3, m_4, hc_5, h⟩ := bd_some h
  refine c_V (rest := []) X hP hS (tX12_kindHere hI  hc_5) (by decide) (L_ref _) rfl wt_6_182 wt_6_184 ws_3_7 wt_1_13 wt_6_185 ⟨rfl, hy_X12_kindHere⟩ ⟨rfl, rfl⟩ ⟨Nat.le_of_ble_eq_true rfl, Nat.le_of_ble_eq_true rfl⟩ rfl hl.1 rfl (Nat.le_of_ble_eq_true rfl) dX12_ruleHere_13 rfl (fun H locs hP hS => ?_)
  refine lv_istore_n (lv' := [(2, .int r_3), (1, .int x1_1), (0, .ref (A 0))]) hx hb dX12_ruleHere_16 rfl hl (by decide) rfl (fun ls hl => ?_)
  refine lv_aload_n hx hb dX12_ruleHere_17 rfl (lv_at hl 2 rfl) ?_
  refine lv_iload_n hx hb dX12_ruleHere_18 rfl (lv_at hl 0 rfl) ?_
  refine lv_if_lt (tgt := 37) hx hb dX12_ruleHere_19 (by decide) (fun c_6 => ?_) (fun c_6 => ?_)
  · have h := ifp c_6 h
    refine lv_iconst (v := 0) hx hb dX12_ruleHere_37 (by decide) ?_
    exact tX12_ruleHere_38 hI    X x1_1 r_3 0 m_4 _ _ _  h hP hS (lv_sub hl [2, 1, 0] rfl)
  · have h := ifn c_6 h
    refine lv_aload_n hx hb dX12_ruleHere_22 rfl (lv_at hl 2 rfl) ?_
    refine r_get kc_12 0 X hP (by decide) (L_ref _) (by decide) rfl wt_5_172 dX12_ruleHere_23 ?_
    refine lv_iconst (v := 5) hx hb dX12_ruleHere_26 (by decide) ?_
    refine r_iald X hP (by decide) (Lr_1 _) (vpc (by decide)) ixc_5 dX12_ruleHere_27 ?_
    refine lv_bipush (v := 8) hx hb dX12_ruleHere_28 (by decide) ?_
    refine lv_icmp_ge (tgt := 37) hx hb dX12_ruleHere_30 (by decide) (fun c_53 => ?_) (fun c_53 => ?_)
    · have h := ifp c_53 h
      refine lv_iconst (v := 0) hx hb dX12_ruleHere_37 (by decide) ?_
      exact tX12_ruleHere_38 hI    X x1_1 r_3 0 m_4 _ _ _  h hP hS (lv_sub hl [2, 1, 0] rfl)
    · have h := ifn c_53 h
      refine lv_iconst (v := 1) hx hb dX12_ruleHere_33 (by decide) ?_
      refine lv_goto (tgt := 38) hx hb dX12_ruleHere_34 (by decide) ?_
      exact tX12_ruleHere_38 hI    X x1_1 r_3 1 m_4 _ _ _  h hP hS (lv_sub hl [2, 1, 0] rfl)

def fX12_rules_116   (m : Mm) : Option (Int32 × Mm) := (if (m 0 10) = 0 then some ((m 1 5), m) else some ((((-100) : Int32) - (m 0 7)), m))
set_option maxHeartbeats 4000000 in
set_option maxRecDepth 100000 in
theorem tX12_rules_116 (hI : InjA rN A)  {r : Int32} {m' : Mm} (X : CX rLay rN D cA A p s m0 args meth c "BenchTowelsModel" cX12_rules 2 (some .int)) : ∀  (m : Mm) (H : Heap) (locs : List Loc) (ls : Array Slot), fX12_rules_116  m = some (r, m') → va_P D vwCl (wsOf rLay rN cA A m) H → va_S (AW rN A) s.heap H locs → lv_has ls 2 [(0, .ref (A 0))] → W p l e { frames := 65, cells := 0, slots := 0, locals := 1412 } s m0 args below meth c H locs 0 0 (ZR below args s rLay rN D cA A (some (.int r)) m') (F0 m0 116 ls []) := by
  have hx := X.1
  have hb := X.2.1
  have hml := X.2.2.1
  have hown := X.2.2.2.1
  have hts := X.2.2.2.2.1
  have hF := X.2.2.2.2.2.2.2.2.1
  intro m H locs ls h hP hS hl
  rewrite [fX12_rules_116] at h
  refine lv_aload_n hx hb dX12_rules_116 rfl (lv_at hl 0 rfl) ?_
  refine r_get kc_12 10 X hP (by decide) (L_ref _) (by decide) rfl wt_5_182 dX12_rules_117 ?_
  refine lv_if_eq (tgt := 133) hx hb dX12_rules_120 (by decide) (fun c_17 => ?_) (fun c_17 => ?_)
  · have h := ifp c_17 h
    refine lv_aload_n hx hb dX12_rules_133 rfl (lv_at hl 0 rfl) ?_
    refine r_get kc_12 0 X hP (by decide) (L_ref _) (by decide) rfl wt_5_172 dX12_rules_134 ?_
    refine lv_iconst (v := 5) hx hb dX12_rules_137 (by decide) ?_
    refine r_iald X hP (by decide) (Lr_1 _) (vpc (by decide)) ixc_5 dX12_rules_138 ?_
    exact r_iret X hP hS dX12_rules_139 h
  · have h := ifn c_17 h
    refine lv_bipush (v := (-100)) hx hb dX12_rules_123 (by decide) ?_
    refine lv_aload_n hx hb dX12_rules_125 rfl (lv_at hl 0 rfl) ?_
    refine r_get kc_12 7 X hP (by decide) (L_ref _) (by decide) rfl wt_5_179 dX12_rules_126 ?_
    refine lv_isub hx hb dX12_rules_129 ?_
    refine lv_goto (tgt := 139) hx hb dX12_rules_130 (by decide) ?_
    exact r_iret X hP hS dX12_rules_139 h

def fX12_rules_84  : Nat → Int32 → Mm → Option (Int32 × Mm)
  | 0, _, _ => none
  | n + 1, x1, m => (if (553 : Int32) ≤ x1 then fX12_rules_116  m else (if (m 0 10) = 0 then fX12_rules_116  m else gx x1 553 (lt (up m 1 (ix x1) (m 5 (ix x1))) fun m_20 => lt ((x1 : Int32) + 1) fun x1_22 => (fX12_rules_84 n x1_22 m_20))))
set_option maxHeartbeats 4000000 in
set_option maxRecDepth 100000 in
theorem tX12_rules_84 (hI : InjA rN A)  {r : Int32} {m' : Mm} (X : CX rLay rN D cA A p s m0 args meth c "BenchTowelsModel" cX12_rules 2 (some .int)) : ∀ (n : Nat) (x1 : Int32) (m : Mm) (H : Heap) (locs : List Loc) (ls : Array Slot), fX12_rules_84 n x1 m = some (r, m') → va_P D vwCl (wsOf rLay rN cA A m) H → va_S (AW rN A) s.heap H locs → lv_has ls 2 [(0, .ref (A 0)), (1, .int x1)] → W p l e { frames := 65, cells := 0, slots := 0, locals := 1412 } s m0 args below meth c H locs 0 0 (ZR below args s rLay rN D cA A (some (.int r)) m') (F0 m0 84 ls []) := by
  have hx := X.1
  have hb := X.2.1
  have hml := X.2.2.1
  have hown := X.2.2.2.1
  have hts := X.2.2.2.2.1
  have hF := X.2.2.2.2.2.2.2.2.1
  intro n
  induction n with
  | zero =>
    intro x1 m H locs ls h hP hS hl
    exact absurd h (by rewrite [fX12_rules_84]; exact fun q => by cases q)
  | succ n ih =>
    intro x1 m H locs ls h hP hS hl
    rewrite [fX12_rules_84] at h
    refine lv_iload_n hx hb dX12_rules_84 rfl (lv_at hl 1 rfl) ?_
    refine lv_sipush (v := 553) hx hb dX12_rules_85 (by decide) ?_
    refine lv_icmp_ge (tgt := 116) hx hb dX12_rules_88 (by decide) (fun c_16 => ?_) (fun c_16 => ?_)
    · have h := ifp c_16 h
      exact tX12_rules_116 hI    X m _ _ _  h hP hS (lv_sub hl [0] rfl)
    · have h := ifn c_16 h
      refine lv_aload_n hx hb dX12_rules_91 rfl (lv_at hl 0 rfl) ?_
      refine r_get kc_12 10 X hP (by decide) (L_ref _) (by decide) rfl wt_5_182 dX12_rules_92 ?_
      refine lv_if_eq (tgt := 116) hx hb dX12_rules_95 (by decide) (fun c_18 => ?_) (fun c_18 => ?_)
      · have h := ifp c_18 h
        exact tX12_rules_116 hI    X m _ _ _  h hP hS (lv_sub hl [0] rfl)
      · have h := ifn c_18 h
        refine lv_aload_n hx hb dX12_rules_98 rfl (lv_at hl 0 rfl) ?_
        refine r_get kc_12 0 X hP (by decide) (L_ref _) (by decide) rfl wt_5_172 dX12_rules_99 ?_
        refine lv_iload_n hx hb dX12_rules_102 rfl (lv_at hl 1 rfl) ?_
        refine lv_aload_n hx hb dX12_rules_103 rfl (lv_at hl 0 rfl) ?_
        refine r_get kc_12 12 X hP (by decide) (L_ref _) (by decide) rfl wt_5_184 dX12_rules_104 ?_
        refine lv_iload_n hx hb dX12_rules_107 rfl (lv_at hl 1 rfl) ?_
        obtain ⟨hin_19, h⟩ := gx_some h
        refine r_iald X hP (by decide) (Lr_5 _) hin_19 rfl dX12_rules_108 ?_
        obtain ⟨m_20, em_21, h⟩ := lt_some h
        refine r_iast X hP hS (by decide) Lr_1 hin_19 rfl dX12_rules_109 em_21 (fun H locs hP hS => ?_)
        obtain ⟨x1_22, ex_23, h⟩ := lt_some h
        refine lv_iinc (v := x1_22) (lv' := [(1, .int x1_22), (0, .ref (A 0))]) hx hb dX12_rules_110 hl (k := 1) rfl (by rw [ex_23]; rfl) (by decide) rfl (fun ls hl => ?_)
        refine lv_goto (tgt := 84) hx hb dX12_rules_113 (by decide) ?_
        exact ih x1_22 m_20 _ _ _  h hP hS (lv_sub hl [1, 0] rfl)

def fX12_rules_77   (m : Mm) : Option (Int32 × Mm) := lt (up m 0 5 0) fun m_14 => (fX12_rules_84  FL 0 m_14)
set_option maxHeartbeats 4000000 in
set_option maxRecDepth 100000 in
theorem tX12_rules_77 (hI : InjA rN A)  {r : Int32} {m' : Mm} (X : CX rLay rN D cA A p s m0 args meth c "BenchTowelsModel" cX12_rules 2 (some .int)) : ∀  (m : Mm) (H : Heap) (locs : List Loc) (ls : Array Slot), fX12_rules_77  m = some (r, m') → va_P D vwCl (wsOf rLay rN cA A m) H → va_S (AW rN A) s.heap H locs → lv_has ls 2 [(0, .ref (A 0))] → W p l e { frames := 65, cells := 0, slots := 0, locals := 1412 } s m0 args below meth c H locs 0 0 (ZR below args s rLay rN D cA A (some (.int r)) m') (F0 m0 77 ls []) := by
  have hx := X.1
  have hb := X.2.1
  have hml := X.2.2.1
  have hown := X.2.2.2.1
  have hts := X.2.2.2.2.1
  have hF := X.2.2.2.2.2.2.2.2.1
  intro m H locs ls h hP hS hl
  rewrite [fX12_rules_77] at h
  refine lv_aload_n hx hb dX12_rules_77 rfl (lv_at hl 0 rfl) ?_
  refine lv_iconst (v := 0) hx hb dX12_rules_78 (by decide) ?_
  obtain ⟨m_14, em_15, h⟩ := lt_some h
  refine r_put kc_12 5 X hP hS (by decide) (L_ref _) (L_ref _) (by decide) wt_5_177 rfl (by decide +kernel) (Nat.le_of_ble_eq_true rfl) dX12_rules_79 em_15 (fun H locs hP hS => ?_)
  refine lv_iconst (v := 0) hx hb dX12_rules_82 (by decide) ?_
  refine lv_istore_n (lv' := [(1, .int 0), (0, .ref (A 0))]) hx hb dX12_rules_83 rfl hl (by decide) rfl (fun ls hl => ?_)
  exact tX12_rules_84 hI    X FL 0 m_14 _ _ _  h hP hS (lv_sub hl [1, 0] rfl)

def fX12_rules_56  : Nat → Mm → Option (Int32 × Mm)
  | 0, _ => none
  | n + 1, m => (if (m 0 10) = 0 then (if (m 0 6) = 0 then fX12_rules_77  m else bd (fX12_ruleHere m) fun r_25 m_26 => (fX12_rules_56 n m_26)) else fX12_rules_77  m)
set_option maxHeartbeats 4000000 in
set_option maxRecDepth 100000 in
theorem tX12_rules_56 (hI : InjA rN A)  {r : Int32} {m' : Mm} (X : CX rLay rN D cA A p s m0 args meth c "BenchTowelsModel" cX12_rules 2 (some .int)) : ∀ (n : Nat)  (m : Mm) (H : Heap) (locs : List Loc) (ls : Array Slot), fX12_rules_56 n  m = some (r, m') → va_P D vwCl (wsOf rLay rN cA A m) H → va_S (AW rN A) s.heap H locs → lv_has ls 2 [(0, .ref (A 0))] → W p l e { frames := 65, cells := 0, slots := 0, locals := 1412 } s m0 args below meth c H locs 0 0 (ZR below args s rLay rN D cA A (some (.int r)) m') (F0 m0 56 ls []) := by
  have hx := X.1
  have hb := X.2.1
  have hml := X.2.2.1
  have hown := X.2.2.2.1
  have hts := X.2.2.2.2.1
  have hF := X.2.2.2.2.2.2.2.2.1
  intro n
  induction n with
  | zero =>
    intro m H locs ls h hP hS hl
    exact absurd h (by rewrite [fX12_rules_56]; exact fun q => by cases q)
  | succ n ih =>
    intro m H locs ls h hP hS hl
    rewrite [fX12_rules_56] at h
    refine lv_aload_n hx hb dX12_rules_56 rfl (lv_at hl 0 rfl) ?_
    refine r_get kc_12 10 X hP (by decide) (L_ref _) (by decide) rfl wt_5_182 dX12_rules_57 ?_
    refine lv_if_ne (tgt := 77) hx hb dX12_rules_60 (by decide) (fun c_13 => ?_) (fun c_13 => ?_)
    · have h := ifn c_13 h
      exact tX12_rules_77 hI    X m _ _ _  h hP hS (lv_sub hl [0] rfl)
    · have h := ifp c_13 h
      refine lv_aload_n hx hb dX12_rules_63 rfl (lv_at hl 0 rfl) ?_
      refine r_get kc_12 6 X hP (by decide) (L_ref _) (by decide) rfl wt_5_178 dX12_rules_64 ?_
      refine lv_if_eq (tgt := 77) hx hb dX12_rules_67 (by decide) (fun c_24 => ?_) (fun c_24 => ?_)
      · have h := ifp c_24 h
        exact tX12_rules_77 hI    X m _ _ _  h hP hS (lv_sub hl [0] rfl)
      · have h := ifn c_24 h
        refine lv_aload_n hx hb dX12_rules_70 rfl (lv_at hl 0 rfl) ?_
        obtain ⟨r_25, m_26, hc_27, h⟩ := bd_some h
        refine c_V (rest := []) X hP hS (tX12_ruleHere hI  hc_27) (by decide) (L_ref _) rfl wt_6_178 wt_6_180 ws_3_6 wt_1_13 wt_6_181 ⟨rfl, hy_X12_ruleHere⟩ ⟨rfl, rfl⟩ ⟨Nat.le_of_ble_eq_true rfl, Nat.le_of_ble_eq_true rfl⟩ rfl hl.1 rfl (Nat.le_of_ble_eq_true rfl) dX12_rules_71 rfl (fun H locs hP hS => ?_)
        refine lv_goto (tgt := 56) hx hb dX12_rules_74 (by decide) ?_
        exact ih m_26 _ _ _  h hP hS (lv_sub hl [0] rfl)

def fX12_rules_2  : Nat → Int32 → Mm → Option (Int32 × Mm)
  | 0, _, _ => none
  | n + 1, x1, m => (if (553 : Int32) ≤ x1 then lt (up m 1 5 0) fun m_2 => lt (up m_2 1 7 0) fun m_4 => lt (up m_4 0 8 0) fun m_6 => lt (up m_6 0 10 0) fun m_8 => bd (fX12_nextToken m_8) fun r_10 m_11 => (fX12_rules_56  FL m_11) else gx x1 553 (lt (up m 5 (ix x1) (m 1 (ix x1))) fun m_29 => lt ((x1 : Int32) + 1) fun x1_31 => (fX12_rules_2 n x1_31 m_29)))
set_option maxHeartbeats 4000000 in
set_option maxRecDepth 100000 in
theorem tX12_rules_2 (hI : InjA rN A)  {r : Int32} {m' : Mm} (X : CX rLay rN D cA A p s m0 args meth c "BenchTowelsModel" cX12_rules 2 (some .int)) : ∀ (n : Nat) (x1 : Int32) (m : Mm) (H : Heap) (locs : List Loc) (ls : Array Slot), fX12_rules_2 n x1 m = some (r, m') → va_P D vwCl (wsOf rLay rN cA A m) H → va_S (AW rN A) s.heap H locs → lv_has ls 2 [(0, .ref (A 0)), (1, .int x1)] → W p l e { frames := 65, cells := 0, slots := 0, locals := 1412 } s m0 args below meth c H locs 0 0 (ZR below args s rLay rN D cA A (some (.int r)) m') (F0 m0 2 ls []) := by
  have hx := X.1
  have hb := X.2.1
  have hml := X.2.2.1
  have hown := X.2.2.2.1
  have hts := X.2.2.2.2.1
  have hF := X.2.2.2.2.2.2.2.2.1
  intro n
  induction n with
  | zero =>
    intro x1 m H locs ls h hP hS hl
    exact absurd h (by rewrite [fX12_rules_2]; exact fun q => by cases q)
  | succ n ih =>
    intro x1 m H locs ls h hP hS hl
    rewrite [fX12_rules_2] at h
    refine lv_iload_n hx hb dX12_rules_2 rfl (lv_at hl 1 rfl) ?_
    refine lv_sipush (v := 553) hx hb dX12_rules_3 (by decide) ?_
    refine lv_icmp_ge (tgt := 27) hx hb dX12_rules_6 (by decide) (fun c_1 => ?_) (fun c_1 => ?_)
    · have h := ifp c_1 h
      refine lv_aload_n hx hb dX12_rules_27 rfl (lv_at hl 0 rfl) ?_
      refine r_get kc_12 0 X hP (by decide) (L_ref _) (by decide) rfl wt_5_172 dX12_rules_28 ?_
      refine lv_iconst (v := 5) hx hb dX12_rules_31 (by decide) ?_
      refine lv_iconst (v := 0) hx hb dX12_rules_32 (by decide) ?_
      obtain ⟨m_2, em_3, h⟩ := lt_some h
      refine r_iast X hP hS (by decide) Lr_1 (vpc (by decide)) ixc_5 dX12_rules_33 em_3 (fun H locs hP hS => ?_)
      refine lv_aload_n hx hb dX12_rules_34 rfl (lv_at hl 0 rfl) ?_
      refine r_get kc_12 0 X hP (by decide) (L_ref _) (by decide) rfl wt_5_172 dX12_rules_35 ?_
      refine lv_bipush (v := 7) hx hb dX12_rules_38 (by decide) ?_
      refine lv_iconst (v := 0) hx hb dX12_rules_40 (by decide) ?_
      obtain ⟨m_4, em_5, h⟩ := lt_some h
      refine r_iast X hP hS (by decide) Lr_1 (vpc (by decide)) ixc_7 dX12_rules_41 em_5 (fun H locs hP hS => ?_)
      refine lv_aload_n hx hb dX12_rules_42 rfl (lv_at hl 0 rfl) ?_
      refine lv_iconst (v := 0) hx hb dX12_rules_43 (by decide) ?_
      obtain ⟨m_6, em_7, h⟩ := lt_some h
      refine r_put kc_12 8 X hP hS (by decide) (L_ref _) (L_ref _) (by decide) wt_5_180 rfl (by decide +kernel) (Nat.le_of_ble_eq_true rfl) dX12_rules_44 em_7 (fun H locs hP hS => ?_)
      refine lv_aload_n hx hb dX12_rules_47 rfl (lv_at hl 0 rfl) ?_
      refine lv_iconst (v := 0) hx hb dX12_rules_48 (by decide) ?_
      obtain ⟨m_8, em_9, h⟩ := lt_some h
      refine r_putz kc_12 10 X (Or.inl rfl) hP hS (by decide) (L_ref _) (L_ref _) (by decide) wt_5_182 rfl (by decide +kernel) (Nat.le_of_ble_eq_true rfl) dX12_rules_49 em_9 (fun H locs hP hS => ?_)
      refine lv_aload_n hx hb dX12_rules_52 rfl (lv_at hl 0 rfl) ?_
      obtain ⟨r_10, m_11, hc_12, h⟩ := bd_some h
      refine c_V (rest := []) X hP hS (tX12_nextToken hI  hc_12) (by decide) (L_ref _) rfl wt_6_164 wt_6_166 ws_3_4 wt_1_13 wt_6_167 ⟨rfl, hy_X12_nextToken⟩ ⟨rfl, rfl⟩ ⟨Nat.le_of_ble_eq_true rfl, Nat.le_of_ble_eq_true rfl⟩ rfl hl.1 rfl (Nat.le_of_ble_eq_true rfl) dX12_rules_53 rfl (fun H locs hP hS => ?_)
      exact tX12_rules_56 hI    X FL m_11 _ _ _  h hP hS (lv_sub hl [0] rfl)
    · have h := ifn c_1 h
      refine lv_aload_n hx hb dX12_rules_9 rfl (lv_at hl 0 rfl) ?_
      refine r_get kc_12 12 X hP (by decide) (L_ref _) (by decide) rfl wt_5_184 dX12_rules_10 ?_
      refine lv_iload_n hx hb dX12_rules_13 rfl (lv_at hl 1 rfl) ?_
      refine lv_aload_n hx hb dX12_rules_14 rfl (lv_at hl 0 rfl) ?_
      refine r_get kc_12 0 X hP (by decide) (L_ref _) (by decide) rfl wt_5_172 dX12_rules_15 ?_
      refine lv_iload_n hx hb dX12_rules_18 rfl (lv_at hl 1 rfl) ?_
      obtain ⟨hin_28, h⟩ := gx_some h
      refine r_iald X hP (by decide) (Lr_1 _) hin_28 rfl dX12_rules_19 ?_
      obtain ⟨m_29, em_30, h⟩ := lt_some h
      refine r_iast X hP hS (by decide) Lr_5 hin_28 rfl dX12_rules_20 em_30 (fun H locs hP hS => ?_)
      obtain ⟨x1_31, ex_32, h⟩ := lt_some h
      refine lv_iinc (v := x1_31) (lv' := [(1, .int x1_31), (0, .ref (A 0))]) hx hb dX12_rules_21 hl (k := 1) rfl (by rw [ex_32]; rfl) (by decide) rfl (fun ls hl => ?_)
      refine lv_goto (tgt := 2) hx hb dX12_rules_24 (by decide) ?_
      exact ih x1_31 m_29 _ _ _  h hP hS (lv_sub hl [1, 0] rfl)

def fX12_rules  (m : Mm) : Option (Int32 × Mm) := (fX12_rules_2  FL 0 m)
set_option maxHeartbeats 4000000 in
set_option maxRecDepth 100000 in
theorem tX12_rules {l : Launch} {D : va_G} {cA : Nat → ClassId} {A : Nat → Nat} (hI : InjA rN A) {m m' : Mm} {r : Int32} (h : fX12_rules m = some (r, m')) : Met0 l yX12_rules cX12_rules 2 (some .int) { frames := 65, cells := 0, slots := 0, locals := 1412 } rLay rN D cA A [.ref (A 0)] m (some (.int r)) m' := by
  refine met0_of (by decide) (Nat.le_of_ble_eq_true rfl) hI ?_
  intro p e s m0 below meth c ls X hinit hP hS hl
  generalize ([.ref (A 0)] : List Value).toArray = args at X ⊢
  have hl : lv_has ls 2 [(0, .ref (A 0))] := hl
  have X : CX rLay rN D cA A p s m0 args meth c "BenchTowelsModel" cX12_rules 2 (some .int) := X
  have hx := X.1
  have hb := X.2.1
  have hml := X.2.2.1
  have hown := X.2.2.2.1
  have hts := X.2.2.2.2.1
  have hF := X.2.2.2.2.2.2.2.2.1
  rewrite [fX12_rules] at h
  refine lv_iconst (v := 0) hx hb dX12_rules_0 (by decide) ?_
  refine lv_istore_n (lv' := [(1, .int 0), (0, .ref (A 0))]) hx hb dX12_rules_1 rfl hl (by decide) rfl (fun ls hl => ?_)
  exact tX12_rules_2 hI    X FL 0 m _ _ _  h hP hS (lv_sub hl [1, 0] rfl)

def fX12_doesBy_95  (x1 : Int32) (x2 : Int32) (x3 : Int32) (x5 : Int32) (s0 : Int32) (s1 : Int32) (s2 : Int32) (s3 : Int32) (m : Mm) : Option (Int32 × Mm) := bd (fX12_least s2 (s1 + s0) m) fun r_27 m_28 => gx s3 553 (lt (up m_28 1 (ix s3) r_27) fun m_31 => gx (((8 : Int32) + ((5 : Int32) * x1)) + 4) 553 (lt (up m_31 1 (ix (((8 : Int32) + ((5 : Int32) * x1)) + 4)) ((m_31 1 (ix (((8 : Int32) + ((5 : Int32) * x1)) + 4))) - 1)) fun m_34 => bd (fX12_its x1 (2 : Int32) m_34) fun r_36 m_37 => gx x3 553 (lt (up m_37 1 (ix x3) r_36) fun m_40 => lt (up m_40 0 13 x1) fun m_42 => (if x2 = 0 then some (x5, m_42) else some ((x5 / 2), m_42)))))
set_option maxHeartbeats 4000000 in
set_option maxRecDepth 100000 in
theorem tX12_doesBy_95 (hI : InjA rN A)  {r : Int32} {m' : Mm} (X : CX rLay rN D cA A p s m0 args meth c "BenchTowelsModel" cX12_doesBy 6 (some .int)) : ∀ (x1 : Int32) (x2 : Int32) (x3 : Int32) (x5 : Int32) (s0 : Int32) (s1 : Int32) (s2 : Int32) (s3 : Int32) (m : Mm) (H : Heap) (locs : List Loc) (ls : Array Slot), fX12_doesBy_95 x1 x2 x3 x5 s0 s1 s2 s3 m = some (r, m') → va_P D vwCl (wsOf rLay rN cA A m) H → va_S (AW rN A) s.heap H locs → lv_has ls 6 [(0, .ref (A 0)), (1, .int x1), (2, .int x2), (3, .int x3), (5, .int x5)] → W p l e { frames := 2, cells := 0, slots := 0, locals := 44 } s m0 args below meth c H locs 0 0 (ZR below args s rLay rN D cA A (some (.int r)) m') (F0 m0 95 ls [.int s0, .int s1, .int s2, .int s3, .ref (A 1)]) := by
  have hx := X.1
  have hb := X.2.1
  have hml := X.2.2.1
  have hown := X.2.2.2.1
  have hts := X.2.2.2.2.1
  have hF := X.2.2.2.2.2.2.2.2.1
  intro x1 x2 x3 x5 s0 s1 s2 s3 m H locs ls h hP hS hl
  rewrite [fX12_doesBy_95] at h
  refine lv_iadd hx hb dX12_doesBy_95 ?_
  obtain ⟨r_27, m_28, hc_29, h⟩ := bd_some h
  refine c_S (rest := [.int s3, .ref (A 1)]) X hP hS (tX12_least hI  hc_29) wt_7_17 wt_7_18 wt_1_13 wt_7_19 hy_X12_least ⟨rfl, rfl⟩ ⟨Nat.le_of_ble_eq_true rfl, Nat.le_of_ble_eq_true rfl⟩ rfl hl.1 rfl (Nat.le_of_ble_eq_true rfl) dX12_doesBy_96 rfl (fun H locs hP hS => ?_)
  obtain ⟨hin_30, h⟩ := gx_some h
  obtain ⟨m_31, em_32, h⟩ := lt_some h
  refine r_iast X hP hS (by decide) Lr_1 hin_30 rfl dX12_doesBy_99 em_32 (fun H locs hP hS => ?_)
  refine lv_aload_n hx hb dX12_doesBy_100 rfl (lv_at hl 0 rfl) ?_
  refine r_get kc_12 0 X hP (by decide) (L_ref _) (by decide) rfl wt_5_172 dX12_doesBy_101 ?_
  refine lv_bipush (v := 8) hx hb dX12_doesBy_104 (by decide) ?_
  refine lv_iconst (v := 5) hx hb dX12_doesBy_106 (by decide) ?_
  refine lv_iload_n hx hb dX12_doesBy_107 rfl (lv_at hl 1 rfl) ?_
  refine lv_imul hx hb dX12_doesBy_108 ?_
  refine lv_iadd hx hb dX12_doesBy_109 ?_
  refine lv_iconst (v := 4) hx hb dX12_doesBy_110 (by decide) ?_
  refine lv_iadd hx hb dX12_doesBy_111 ?_
  refine lv_dup2_11 hx hb dX12_doesBy_112 rfl rfl ?_
  obtain ⟨hin_33, h⟩ := gx_some h
  refine r_iald X hP (by decide) (Lr_1 _) hin_33 rfl dX12_doesBy_113 ?_
  refine lv_iconst (v := 1) hx hb dX12_doesBy_114 (by decide) ?_
  refine lv_isub hx hb dX12_doesBy_115 ?_
  obtain ⟨m_34, em_35, h⟩ := lt_some h
  refine r_iast X hP hS (by decide) Lr_1 hin_33 rfl dX12_doesBy_116 em_35 (fun H locs hP hS => ?_)
  refine lv_aload_n hx hb dX12_doesBy_117 rfl (lv_at hl 0 rfl) ?_
  refine r_get kc_12 0 X hP (by decide) (L_ref _) (by decide) rfl wt_5_172 dX12_doesBy_118 ?_
  refine lv_iload_n hx hb dX12_doesBy_121 rfl (lv_at hl 3 rfl) ?_
  refine lv_aload_n hx hb dX12_doesBy_122 rfl (lv_at hl 0 rfl) ?_
  refine lv_iload_n hx hb dX12_doesBy_123 rfl (lv_at hl 1 rfl) ?_
  refine lv_iconst (v := 2) hx hb dX12_doesBy_124 (by decide) ?_
  obtain ⟨r_36, m_37, hc_38, h⟩ := bd_some h
  refine c_V (rest := [.int x3, .ref (A 1)]) X hP hS (tX12_its hI  hc_38) (by decide) (L_ref _) rfl wt_6_76 wt_6_78 ws_2_10 wt_1_13 wt_6_79 ⟨rfl, hy_X12_its⟩ ⟨rfl, rfl⟩ ⟨Nat.le_of_ble_eq_true rfl, Nat.le_of_ble_eq_true rfl⟩ rfl hl.1 rfl (Nat.le_of_ble_eq_true rfl) dX12_doesBy_125 rfl (fun H locs hP hS => ?_)
  obtain ⟨hin_39, h⟩ := gx_some h
  obtain ⟨m_40, em_41, h⟩ := lt_some h
  refine r_iast X hP hS (by decide) Lr_1 hin_39 rfl dX12_doesBy_128 em_41 (fun H locs hP hS => ?_)
  refine lv_aload_n hx hb dX12_doesBy_129 rfl (lv_at hl 0 rfl) ?_
  refine lv_iload_n hx hb dX12_doesBy_130 rfl (lv_at hl 1 rfl) ?_
  obtain ⟨m_42, em_43, h⟩ := lt_some h
  refine r_put kc_12 13 X hP hS (by decide) (L_ref _) (L_ref _) (by decide) wt_5_185 rfl (by decide +kernel) (Nat.le_of_ble_eq_true rfl) dX12_doesBy_131 em_43 (fun H locs hP hS => ?_)
  refine lv_iload_n hx hb dX12_doesBy_134 rfl (lv_at hl 2 rfl) ?_
  refine lv_if_ne (tgt := 143) hx hb dX12_doesBy_135 (by decide) (fun c_44 => ?_) (fun c_44 => ?_)
  · have h := ifn c_44 h
    refine lv_iload hx hb dX12_doesBy_143 (lv_at hl 4 rfl) ?_
    refine lv_iconst (v := 2) hx hb dX12_doesBy_145 (by decide) ?_
    refine lv_idiv hx hb dX12_doesBy_146 (by decide) ?_
    exact r_iret X hP hS dX12_doesBy_147 h
  · have h := ifp c_44 h
    refine lv_iload hx hb dX12_doesBy_138 (lv_at hl 4 rfl) ?_
    refine lv_goto (tgt := 147) hx hb dX12_doesBy_140 (by decide) ?_
    exact r_iret X hP hS dX12_doesBy_147 h

def fX12_doesBy_65  (x1 : Int32) (x2 : Int32) (x3 : Int32) (x4 : Int32) (s0 : Int32) (m : Mm) : Option (Int32 × Mm) := gx x4 553 ((if x2 = 0 then bd (fX12_tires x1 m) fun r_45 m_46 => (fX12_doesBy_95  x1 x2 x3 s0 r_45 (m 1 (ix x4)) 9 x4 m_46) else (fX12_doesBy_95  x1 x2 x3 s0 1 (m 1 (ix x4)) 9 x4 m)))
set_option maxHeartbeats 4000000 in
set_option maxRecDepth 100000 in
theorem tX12_doesBy_65 (hI : InjA rN A)  {r : Int32} {m' : Mm} (X : CX rLay rN D cA A p s m0 args meth c "BenchTowelsModel" cX12_doesBy 6 (some .int)) : ∀ (x1 : Int32) (x2 : Int32) (x3 : Int32) (x4 : Int32) (s0 : Int32) (m : Mm) (H : Heap) (locs : List Loc) (ls : Array Slot), fX12_doesBy_65 x1 x2 x3 x4 s0 m = some (r, m') → va_P D vwCl (wsOf rLay rN cA A m) H → va_S (AW rN A) s.heap H locs → lv_has ls 6 [(0, .ref (A 0)), (1, .int x1), (2, .int x2), (3, .int x3), (4, .int x4)] → W p l e { frames := 2, cells := 0, slots := 0, locals := 44 } s m0 args below meth c H locs 0 0 (ZR below args s rLay rN D cA A (some (.int r)) m') (F0 m0 65 ls [.int s0]) := by
  have hx := X.1
  have hb := X.2.1
  have hml := X.2.2.1
  have hown := X.2.2.2.1
  have hts := X.2.2.2.2.1
  have hF := X.2.2.2.2.2.2.2.2.1
  intro x1 x2 x3 x4 s0 m H locs ls h hP hS hl
  rewrite [fX12_doesBy_65] at h
  refine lv_istore (lv' := [(5, .int s0), (0, .ref (A 0)), (1, .int x1), (2, .int x2), (3, .int x3), (4, .int x4)]) hx hb dX12_doesBy_65 hl (by decide) rfl (fun ls hl => ?_)
  refine lv_aload_n hx hb dX12_doesBy_67 rfl (lv_at hl 1 rfl) ?_
  refine r_get kc_12 0 X hP (by decide) (L_ref _) (by decide) rfl wt_5_172 dX12_doesBy_68 ?_
  refine lv_iload hx hb dX12_doesBy_71 (lv_at hl 5 rfl) ?_
  refine lv_bipush (v := 9) hx hb dX12_doesBy_73 (by decide) ?_
  refine lv_aload_n hx hb dX12_doesBy_75 rfl (lv_at hl 1 rfl) ?_
  refine r_get kc_12 0 X hP (by decide) (L_ref _) (by decide) rfl wt_5_172 dX12_doesBy_76 ?_
  refine lv_iload hx hb dX12_doesBy_79 (lv_at hl 5 rfl) ?_
  obtain ⟨hin_25, h⟩ := gx_some h
  refine r_iald X hP (by decide) (Lr_1 _) hin_25 rfl dX12_doesBy_81 ?_
  refine lv_iload_n hx hb dX12_doesBy_82 rfl (lv_at hl 3 rfl) ?_
  refine lv_if_ne (tgt := 94) hx hb dX12_doesBy_83 (by decide) (fun c_26 => ?_) (fun c_26 => ?_)
  · have h := ifn c_26 h
    refine lv_iconst (v := 1) hx hb dX12_doesBy_94 (by decide) ?_
    exact tX12_doesBy_95 hI    X x1 x2 x3 s0 1 (m 1 (ix x4)) 9 x4 m _ _ _  h hP hS (lv_sub hl [1, 2, 3, 4, 0] rfl)
  · have h := ifp c_26 h
    refine lv_aload_n hx hb dX12_doesBy_86 rfl (lv_at hl 1 rfl) ?_
    refine lv_iload_n hx hb dX12_doesBy_87 rfl (lv_at hl 2 rfl) ?_
    obtain ⟨r_45, m_46, hc_47, h⟩ := bd_some h
    refine c_V (rest := [.int (m 1 (ix x4)), .int 9, .int x4, .ref (A 1)]) X hP hS (tX12_tires hI  hc_47) (by decide) (L_ref _) rfl wt_6_88 wt_6_90 ws_2_13 wt_1_13 wt_6_91 ⟨rfl, hy_X12_tires⟩ ⟨rfl, rfl⟩ ⟨Nat.le_of_ble_eq_true rfl, Nat.le_of_ble_eq_true rfl⟩ rfl hl.1 rfl (Nat.le_of_ble_eq_true rfl) dX12_doesBy_88 rfl (fun H locs hP hS => ?_)
    refine lv_goto (tgt := 95) hx hb dX12_doesBy_91 (by decide) ?_
    exact tX12_doesBy_95 hI    X x1 x2 x3 s0 r_45 (m 1 (ix x4)) 9 x4 m_46 _ _ _  h hP hS (lv_sub hl [1, 2, 3, 4, 0] rfl)

def fX12_doesBy (a1 : Int32) (a2 : Int32) (m : Mm) : Option (Int32 × Mm) := bd (fX12_its a1 (1 : Int32) m) fun r_1 m_2 => lt ((41 : Int32) + r_1) fun x3_4 => bd (fX12_its a1 (3 : Int32) m_2) fun r_6 m_7 => lt ((38 : Int32) + r_6) fun x4_9 => bd (fX12_gains a1 m_7) fun r_11 m_12 => gx x4_9 553 (gx x3_4 553 (bd (fX12_its a1 (2 : Int32) m_12) fun r_16 m_17 => bd (fX12_apart (m_12 1 (ix x3_4)) r_16 m_17) fun r_19 m_20 => lt ((r_11 - (m_12 1 (ix x4_9))) - (r_19 / 3)) fun x5_22 => (if (0 : Int32) ≤ x5_22 then (fX12_doesBy_65  a1 a2 x3_4 x4_9 x5_22 m_20) else (fX12_doesBy_65  a1 a2 x3_4 x4_9 0 m_20))))
set_option maxHeartbeats 4000000 in
set_option maxRecDepth 100000 in
theorem tX12_doesBy {l : Launch} {D : va_G} {cA : Nat → ClassId} {A : Nat → Nat} (hI : InjA rN A) {a1 : Int32} {a2 : Int32} {m m' : Mm} {r : Int32} (h : fX12_doesBy a1 a2 m = some (r, m')) : Met0 l yX12_doesBy cX12_doesBy 6 (some .int) { frames := 2, cells := 0, slots := 0, locals := 44 } rLay rN D cA A [.ref (A 0), .int a1, .int a2] m (some (.int r)) m' := by
  refine met0_of (by decide) (Nat.le_of_ble_eq_true rfl) hI ?_
  intro p e s m0 below meth c ls X hinit hP hS hl
  generalize ([.ref (A 0), .int a1, .int a2] : List Value).toArray = args at X ⊢
  have hl : lv_has ls 6 [(0, .ref (A 0)), (1, .int a1), (2, .int a2)] := hl
  have X : CX rLay rN D cA A p s m0 args meth c "BenchTowelsModel" cX12_doesBy 6 (some .int) := X
  have hx := X.1
  have hb := X.2.1
  have hml := X.2.2.1
  have hown := X.2.2.2.1
  have hts := X.2.2.2.2.1
  have hF := X.2.2.2.2.2.2.2.2.1
  rewrite [fX12_doesBy] at h
  refine lv_bipush (v := 41) hx hb dX12_doesBy_0 (by decide) ?_
  refine lv_aload_n hx hb dX12_doesBy_2 rfl (lv_at hl 0 rfl) ?_
  refine lv_iload_n hx hb dX12_doesBy_3 rfl (lv_at hl 1 rfl) ?_
  refine lv_iconst (v := 1) hx hb dX12_doesBy_4 (by decide) ?_
  obtain ⟨r_1, m_2, hc_3, h⟩ := bd_some h
  refine c_V (rest := [.int 41]) X hP hS (tX12_its hI  hc_3) (by decide) (L_ref _) rfl wt_6_76 wt_6_78 ws_2_10 wt_1_13 wt_6_79 ⟨rfl, hy_X12_its⟩ ⟨rfl, rfl⟩ ⟨Nat.le_of_ble_eq_true rfl, Nat.le_of_ble_eq_true rfl⟩ rfl hl.1 rfl (Nat.le_of_ble_eq_true rfl) dX12_doesBy_5 rfl (fun H locs hP hS => ?_)
  refine lv_iadd hx hb dX12_doesBy_8 ?_
  obtain ⟨x3_4, ex_5, h⟩ := lt_some h
  refine lv_ren ex_5 ?_
  refine lv_istore_n (lv' := [(3, .int x3_4), (0, .ref (A 0)), (1, .int a1), (2, .int a2)]) hx hb dX12_doesBy_9 rfl hl (by decide) rfl (fun ls hl => ?_)
  refine lv_bipush (v := 38) hx hb dX12_doesBy_10 (by decide) ?_
  refine lv_aload_n hx hb dX12_doesBy_12 rfl (lv_at hl 1 rfl) ?_
  refine lv_iload_n hx hb dX12_doesBy_13 rfl (lv_at hl 2 rfl) ?_
  refine lv_iconst (v := 3) hx hb dX12_doesBy_14 (by decide) ?_
  obtain ⟨r_6, m_7, hc_8, h⟩ := bd_some h
  refine c_V (rest := [.int 38]) X hP hS (tX12_its hI  hc_8) (by decide) (L_ref _) rfl wt_6_76 wt_6_78 ws_2_10 wt_1_13 wt_6_79 ⟨rfl, hy_X12_its⟩ ⟨rfl, rfl⟩ ⟨Nat.le_of_ble_eq_true rfl, Nat.le_of_ble_eq_true rfl⟩ rfl hl.1 rfl (Nat.le_of_ble_eq_true rfl) dX12_doesBy_15 rfl (fun H locs hP hS => ?_)
  refine lv_iadd hx hb dX12_doesBy_18 ?_
  obtain ⟨x4_9, ex_10, h⟩ := lt_some h
  refine lv_ren ex_10 ?_
  refine lv_istore (lv' := [(4, .int x4_9), (3, .int x3_4), (0, .ref (A 0)), (1, .int a1), (2, .int a2)]) hx hb dX12_doesBy_19 hl (by decide) rfl (fun ls hl => ?_)
  refine lv_aload_n hx hb dX12_doesBy_21 rfl (lv_at hl 2 rfl) ?_
  refine lv_iload_n hx hb dX12_doesBy_22 rfl (lv_at hl 3 rfl) ?_
  obtain ⟨r_11, m_12, hc_13, h⟩ := bd_some h
  refine c_V (rest := []) X hP hS (tX12_gains hI  hc_13) (by decide) (L_ref _) rfl wt_6_84 wt_6_86 ws_2_12 wt_1_13 wt_6_87 ⟨rfl, hy_X12_gains⟩ ⟨rfl, rfl⟩ ⟨Nat.le_of_ble_eq_true rfl, Nat.le_of_ble_eq_true rfl⟩ rfl hl.1 rfl (Nat.le_of_ble_eq_true rfl) dX12_doesBy_23 rfl (fun H locs hP hS => ?_)
  refine lv_aload_n hx hb dX12_doesBy_26 rfl (lv_at hl 2 rfl) ?_
  refine r_get kc_12 0 X hP (by decide) (L_ref _) (by decide) rfl wt_5_172 dX12_doesBy_27 ?_
  refine lv_iload hx hb dX12_doesBy_30 (lv_at hl 0 rfl) ?_
  obtain ⟨hin_14, h⟩ := gx_some h
  refine r_iald X hP (by decide) (Lr_1 _) hin_14 rfl dX12_doesBy_32 ?_
  refine lv_isub hx hb dX12_doesBy_33 ?_
  refine lv_aload_n hx hb dX12_doesBy_34 rfl (lv_at hl 2 rfl) ?_
  refine r_get kc_12 0 X hP (by decide) (L_ref _) (by decide) rfl wt_5_172 dX12_doesBy_35 ?_
  refine lv_iload_n hx hb dX12_doesBy_38 rfl (lv_at hl 1 rfl) ?_
  obtain ⟨hin_15, h⟩ := gx_some h
  refine r_iald X hP (by decide) (Lr_1 _) hin_15 rfl dX12_doesBy_39 ?_
  refine lv_aload_n hx hb dX12_doesBy_40 rfl (lv_at hl 2 rfl) ?_
  refine lv_iload_n hx hb dX12_doesBy_41 rfl (lv_at hl 3 rfl) ?_
  refine lv_iconst (v := 2) hx hb dX12_doesBy_42 (by decide) ?_
  obtain ⟨r_16, m_17, hc_18, h⟩ := bd_some h
  refine c_V (rest := [.int (m_12 1 (ix x3_4)), .int (r_11 - (m_12 1 (ix x4_9)))]) X hP hS (tX12_its hI  hc_18) (by decide) (L_ref _) rfl wt_6_76 wt_6_78 ws_2_10 wt_1_13 wt_6_79 ⟨rfl, hy_X12_its⟩ ⟨rfl, rfl⟩ ⟨Nat.le_of_ble_eq_true rfl, Nat.le_of_ble_eq_true rfl⟩ rfl hl.1 rfl (Nat.le_of_ble_eq_true rfl) dX12_doesBy_43 rfl (fun H locs hP hS => ?_)
  obtain ⟨r_19, m_20, hc_21, h⟩ := bd_some h
  refine c_S (rest := [.int (r_11 - (m_12 1 (ix x4_9)))]) X hP hS (tX12_apart hI  hc_21) wt_7_14 wt_7_15 wt_1_13 wt_7_16 hy_X12_apart ⟨rfl, rfl⟩ ⟨Nat.le_of_ble_eq_true rfl, Nat.le_of_ble_eq_true rfl⟩ rfl hl.1 rfl (Nat.le_of_ble_eq_true rfl) dX12_doesBy_46 rfl (fun H locs hP hS => ?_)
  refine lv_iconst (v := 3) hx hb dX12_doesBy_49 (by decide) ?_
  refine lv_idiv hx hb dX12_doesBy_50 (by decide) ?_
  refine lv_isub hx hb dX12_doesBy_51 ?_
  obtain ⟨x5_22, ex_23, h⟩ := lt_some h
  refine lv_ren ex_23 ?_
  refine lv_istore (lv' := [(5, .int x5_22), (4, .int x4_9), (3, .int x3_4), (0, .ref (A 0)), (1, .int a1), (2, .int a2)]) hx hb dX12_doesBy_52 hl (by decide) rfl (fun ls hl => ?_)
  refine lv_iload hx hb dX12_doesBy_54 (lv_at hl 0 rfl) ?_
  refine lv_if_ge (tgt := 63) hx hb dX12_doesBy_56 (by decide) (fun c_24 => ?_) (fun c_24 => ?_)
  · have h := ifp c_24 h
    refine lv_iload hx hb dX12_doesBy_63 (lv_at hl 0 rfl) ?_
    exact tX12_doesBy_65 hI    X a1 a2 x3_4 x4_9 x5_22 m_20 _ _ _  h hP hS (lv_sub hl [3, 4, 5, 2, 1] rfl)
  · have h := ifn c_24 h
    refine lv_iconst (v := 0) hx hb dX12_doesBy_59 (by decide) ?_
    refine lv_goto (tgt := 65) hx hb dX12_doesBy_60 (by decide) ?_
    exact tX12_doesBy_65 hI    X a1 a2 x3_4 x4_9 0 m_20 _ _ _  h hP hS (lv_sub hl [3, 4, 5, 2, 1] rfl)

def fX12_goesWith_128 (K61 : Int32 → Int32 → Mm → Option (Int32 × Mm)) (x3 : Int32) (x4 : Int32) (s0 : Int32) (s1 : Int32) (m : Mm) : Option (Int32 × Mm) := gx s1 553 (lt (up m 1 (ix s1) (s0 - 0)) fun m_15 => lt ((x4 : Int32) + 1) fun x4_17 => (K61 x3 x4_17 m_15))
set_option maxHeartbeats 4000000 in
set_option maxRecDepth 100000 in
theorem tX12_goesWith_128 (hI : InjA rN A)  {r : Int32} {m' : Mm} {K61 : Int32 → Int32 → Mm → Option (Int32 × Mm)} (hK61 : ∀ (x3 : Int32) (x4 : Int32) (m : Mm) (H : Heap) (locs : List Loc) (ls : Array Slot), K61 x3 x4 m = some (r, m') → va_P D vwCl (wsOf rLay rN cA A m) H → va_S (AW rN A) s.heap H locs → lv_has ls 6 [(0, .ref (A 0)), (3, .int x3), (4, .int x4)] → W p l e { frames := 4, cells := 0, slots := 0, locals := 95 } s m0 args below meth c H locs 0 0 (ZR below args s rLay rN D cA A (some (.int r)) m') (F0 m0 61 ls [])) (X : CX rLay rN D cA A p s m0 args meth c "BenchTowelsModel" cX12_goesWith 6 (some .int)) : ∀ (x3 : Int32) (x4 : Int32) (s0 : Int32) (s1 : Int32) (m : Mm) (H : Heap) (locs : List Loc) (ls : Array Slot), fX12_goesWith_128 K61 x3 x4 s0 s1 m = some (r, m') → va_P D vwCl (wsOf rLay rN cA A m) H → va_S (AW rN A) s.heap H locs → lv_has ls 6 [(0, .ref (A 0)), (3, .int x3), (4, .int x4)] → W p l e { frames := 4, cells := 0, slots := 0, locals := 95 } s m0 args below meth c H locs 0 0 (ZR below args s rLay rN D cA A (some (.int r)) m') (F0 m0 128 ls [.int s0, .int s1, .ref (A 1)]) := by
  have hx := X.1
  have hb := X.2.1
  have hml := X.2.2.1
  have hown := X.2.2.2.1
  have hts := X.2.2.2.2.1
  have hF := X.2.2.2.2.2.2.2.2.1
  intro x3 x4 s0 s1 m H locs ls h hP hS hl
  rewrite [fX12_goesWith_128] at h
  refine lv_iconst (v := 0) hx hb dX12_goesWith_128 (by decide) ?_
  refine lv_isub hx hb dX12_goesWith_129 ?_
  obtain ⟨hin_14, h⟩ := gx_some h
  obtain ⟨m_15, em_16, h⟩ := lt_some h
  refine r_iast X hP hS (by decide) Lr_1 hin_14 rfl dX12_goesWith_130 em_16 (fun H locs hP hS => ?_)
  obtain ⟨x4_17, ex_18, h⟩ := lt_some h
  refine lv_iinc (v := x4_17) (lv' := [(4, .int x4_17), (0, .ref (A 0)), (3, .int x3)]) hx hb dX12_goesWith_131 hl (k := 2) rfl (by rw [ex_18]; rfl) (by decide) rfl (fun ls hl => ?_)
  refine lv_goto (tgt := 61) hx hb dX12_goesWith_134 (by decide) ?_
  exact hK61 x3 x4_17 m_15 _ _ _ h hP hS (lv_sub hl [1, 2, 0] rfl)

def fX12_goesWith_93 (K61 : Int32 → Int32 → Mm → Option (Int32 × Mm)) (x3 : Int32) (x4 : Int32) (s0 : Int32) (m : Mm) : Option (Int32 × Mm) := gx ((38 : Int32) + x4) 553 ((if s0 = 0 then fX12_goesWith_128 K61 x3 x4 (m 1 (ix ((38 : Int32) + x4))) ((38 : Int32) + x4) m else (if (m 1 (ix ((38 : Int32) + x4))) ≤ 0 then fX12_goesWith_128 K61 x3 x4 (m 1 (ix ((38 : Int32) + x4))) ((38 : Int32) + x4) m else lt (up m 1 (ix ((38 : Int32) + x4)) ((m 1 (ix ((38 : Int32) + x4))) - 1)) fun m_20 => lt ((x4 : Int32) + 1) fun x4_22 => (K61 x3 x4_22 m_20))))
set_option maxHeartbeats 4000000 in
set_option maxRecDepth 100000 in
theorem tX12_goesWith_93 (hI : InjA rN A)  {r : Int32} {m' : Mm} {K61 : Int32 → Int32 → Mm → Option (Int32 × Mm)} (hK61 : ∀ (x3 : Int32) (x4 : Int32) (m : Mm) (H : Heap) (locs : List Loc) (ls : Array Slot), K61 x3 x4 m = some (r, m') → va_P D vwCl (wsOf rLay rN cA A m) H → va_S (AW rN A) s.heap H locs → lv_has ls 6 [(0, .ref (A 0)), (3, .int x3), (4, .int x4)] → W p l e { frames := 4, cells := 0, slots := 0, locals := 95 } s m0 args below meth c H locs 0 0 (ZR below args s rLay rN D cA A (some (.int r)) m') (F0 m0 61 ls [])) (X : CX rLay rN D cA A p s m0 args meth c "BenchTowelsModel" cX12_goesWith 6 (some .int)) : ∀ (x3 : Int32) (x4 : Int32) (s0 : Int32) (m : Mm) (H : Heap) (locs : List Loc) (ls : Array Slot), fX12_goesWith_93 K61 x3 x4 s0 m = some (r, m') → va_P D vwCl (wsOf rLay rN cA A m) H → va_S (AW rN A) s.heap H locs → lv_has ls 6 [(0, .ref (A 0)), (3, .int x3), (4, .int x4)] → W p l e { frames := 4, cells := 0, slots := 0, locals := 95 } s m0 args below meth c H locs 0 0 (ZR below args s rLay rN D cA A (some (.int r)) m') (F0 m0 93 ls [.int s0]) := by
  have hx := X.1
  have hb := X.2.1
  have hml := X.2.2.1
  have hown := X.2.2.2.1
  have hts := X.2.2.2.2.1
  have hF := X.2.2.2.2.2.2.2.2.1
  intro x3 x4 s0 m H locs ls h hP hS hl
  rewrite [fX12_goesWith_93] at h
  refine lv_istore (lv' := [(5, .int s0), (0, .ref (A 0)), (3, .int x3), (4, .int x4)]) hx hb dX12_goesWith_93 hl (by decide) rfl (fun ls hl => ?_)
  refine lv_aload_n hx hb dX12_goesWith_95 rfl (lv_at hl 1 rfl) ?_
  refine r_get kc_12 0 X hP (by decide) (L_ref _) (by decide) rfl wt_5_172 dX12_goesWith_96 ?_
  refine lv_bipush (v := 38) hx hb dX12_goesWith_99 (by decide) ?_
  refine lv_iload hx hb dX12_goesWith_101 (lv_at hl 3 rfl) ?_
  refine lv_iadd hx hb dX12_goesWith_103 ?_
  refine lv_dup2_11 hx hb dX12_goesWith_104 rfl rfl ?_
  obtain ⟨hin_12, h⟩ := gx_some h
  refine r_iald X hP (by decide) (Lr_1 _) hin_12 rfl dX12_goesWith_105 ?_
  refine lv_iload hx hb dX12_goesWith_106 (lv_at hl 0 rfl) ?_
  refine lv_if_eq (tgt := 128) hx hb dX12_goesWith_108 (by decide) (fun c_13 => ?_) (fun c_13 => ?_)
  · have h := ifp c_13 h
    exact tX12_goesWith_128 hI   hK61 X x3 x4 (m 1 (ix ((38 : Int32) + x4))) ((38 : Int32) + x4) m _ _ _  h hP hS (lv_sub hl [1, 2, 3] rfl)
  · have h := ifn c_13 h
    refine lv_aload_n hx hb dX12_goesWith_111 rfl (lv_at hl 1 rfl) ?_
    refine r_get kc_12 0 X hP (by decide) (L_ref _) (by decide) rfl wt_5_172 dX12_goesWith_112 ?_
    refine lv_bipush (v := 38) hx hb dX12_goesWith_115 (by decide) ?_
    refine lv_iload hx hb dX12_goesWith_117 (lv_at hl 3 rfl) ?_
    refine lv_iadd hx hb dX12_goesWith_119 ?_
    refine r_iald X hP (by decide) (Lr_1 _) hin_12 rfl dX12_goesWith_120 ?_
    refine lv_if_le (tgt := 128) hx hb dX12_goesWith_121 (by decide) (fun c_19 => ?_) (fun c_19 => ?_)
    · have h := ifp c_19 h
      exact tX12_goesWith_128 hI   hK61 X x3 x4 (m 1 (ix ((38 : Int32) + x4))) ((38 : Int32) + x4) m _ _ _  h hP hS (lv_sub hl [1, 2, 3] rfl)
    · have h := ifn c_19 h
      refine lv_iconst (v := 1) hx hb dX12_goesWith_124 (by decide) ?_
      refine lv_goto (tgt := 129) hx hb dX12_goesWith_125 (by decide) ?_
      refine lv_isub hx hb dX12_goesWith_129 ?_
      obtain ⟨m_20, em_21, h⟩ := lt_some h
      refine r_iast X hP hS (by decide) Lr_1 hin_12 rfl dX12_goesWith_130 em_21 (fun H locs hP hS => ?_)
      obtain ⟨x4_22, ex_23, h⟩ := lt_some h
      refine lv_iinc (v := x4_22) (lv' := [(4, .int x4_22), (5, .int s0), (0, .ref (A 0)), (3, .int x3)]) hx hb dX12_goesWith_131 hl (k := 3) rfl (by rw [ex_23]; rfl) (by decide) rfl (fun ls hl => ?_)
      refine lv_goto (tgt := 61) hx hb dX12_goesWith_134 (by decide) ?_
      exact hK61 x3 x4_22 m_20 _ _ _ h hP hS (lv_sub hl [2, 3, 0] rfl)

def fX12_goesWith_61  : Nat → Int32 → Int32 → Mm → Option (Int32 × Mm)
  | 0, _, _, _ => none
  | n + 1, x3, x4, m => (if (3 : Int32) ≤ x4 then lt (up m 1 1 ((m 1 1) + 1)) fun m_7 => lt (up m_7 1 3 ((m_7 1 3) + x3)) fun m_9 => some (x3, m_9) else (if (m 0 13) < 0 then (fX12_goesWith_93 (fun x3 x4 m => fX12_goesWith_61 n x3 x4 m) x3 x4 1 m) else bd (fX12_its (m 0 13) (3 : Int32) m) fun r_24 m_25 => (if r_24 = x4 then (fX12_goesWith_93 (fun x3 x4 m => fX12_goesWith_61 n x3 x4 m) x3 x4 0 m_25) else (fX12_goesWith_93 (fun x3 x4 m => fX12_goesWith_61 n x3 x4 m) x3 x4 1 m_25))))
set_option maxHeartbeats 4000000 in
set_option maxRecDepth 100000 in
theorem tX12_goesWith_61 (hI : InjA rN A)  {r : Int32} {m' : Mm} (X : CX rLay rN D cA A p s m0 args meth c "BenchTowelsModel" cX12_goesWith 6 (some .int)) : ∀ (n : Nat) (x3 : Int32) (x4 : Int32) (m : Mm) (H : Heap) (locs : List Loc) (ls : Array Slot), fX12_goesWith_61 n x3 x4 m = some (r, m') → va_P D vwCl (wsOf rLay rN cA A m) H → va_S (AW rN A) s.heap H locs → lv_has ls 6 [(0, .ref (A 0)), (3, .int x3), (4, .int x4)] → W p l e { frames := 4, cells := 0, slots := 0, locals := 95 } s m0 args below meth c H locs 0 0 (ZR below args s rLay rN D cA A (some (.int r)) m') (F0 m0 61 ls []) := by
  have hx := X.1
  have hb := X.2.1
  have hml := X.2.2.1
  have hown := X.2.2.2.1
  have hts := X.2.2.2.2.1
  have hF := X.2.2.2.2.2.2.2.2.1
  intro n
  induction n with
  | zero =>
    intro x3 x4 m H locs ls h hP hS hl
    exact absurd h (by rewrite [fX12_goesWith_61]; exact fun q => by cases q)
  | succ n ih =>
    intro x3 x4 m H locs ls h hP hS hl
    rewrite [fX12_goesWith_61] at h
    refine lv_iload hx hb dX12_goesWith_61 (lv_at hl 2 rfl) ?_
    refine lv_iconst (v := 3) hx hb dX12_goesWith_63 (by decide) ?_
    refine lv_icmp_ge (tgt := 137) hx hb dX12_goesWith_64 (by decide) (fun c_6 => ?_) (fun c_6 => ?_)
    · have h := ifp c_6 h
      refine lv_aload_n hx hb dX12_goesWith_137 rfl (lv_at hl 0 rfl) ?_
      refine r_get kc_12 0 X hP (by decide) (L_ref _) (by decide) rfl wt_5_172 dX12_goesWith_138 ?_
      refine lv_iconst (v := 1) hx hb dX12_goesWith_141 (by decide) ?_
      refine lv_dup2_11 hx hb dX12_goesWith_142 rfl rfl ?_
      refine r_iald X hP (by decide) (Lr_1 _) (vpc (by decide)) ixc_1 dX12_goesWith_143 ?_
      refine lv_iconst (v := 1) hx hb dX12_goesWith_144 (by decide) ?_
      refine lv_iadd hx hb dX12_goesWith_145 ?_
      obtain ⟨m_7, em_8, h⟩ := lt_some h
      refine r_iast X hP hS (by decide) Lr_1 (vpc (by decide)) ixc_1 dX12_goesWith_146 em_8 (fun H locs hP hS => ?_)
      refine lv_aload_n hx hb dX12_goesWith_147 rfl (lv_at hl 0 rfl) ?_
      refine r_get kc_12 0 X hP (by decide) (L_ref _) (by decide) rfl wt_5_172 dX12_goesWith_148 ?_
      refine lv_iconst (v := 3) hx hb dX12_goesWith_151 (by decide) ?_
      refine lv_dup2_11 hx hb dX12_goesWith_152 rfl rfl ?_
      refine r_iald X hP (by decide) (Lr_1 _) (vpc (by decide)) ixc_3 dX12_goesWith_153 ?_
      refine lv_iload_n hx hb dX12_goesWith_154 rfl (lv_at hl 1 rfl) ?_
      refine lv_iadd hx hb dX12_goesWith_155 ?_
      obtain ⟨m_9, em_10, h⟩ := lt_some h
      refine r_iast X hP hS (by decide) Lr_1 (vpc (by decide)) ixc_3 dX12_goesWith_156 em_10 (fun H locs hP hS => ?_)
      refine lv_iload_n hx hb dX12_goesWith_157 rfl (lv_at hl 1 rfl) ?_
      exact r_iret X hP hS dX12_goesWith_158 h
    · have h := ifn c_6 h
      refine lv_aload_n hx hb dX12_goesWith_67 rfl (lv_at hl 0 rfl) ?_
      refine r_get kc_12 13 X hP (by decide) (L_ref _) (by decide) rfl wt_5_185 dX12_goesWith_68 ?_
      refine lv_if_lt (tgt := 88) hx hb dX12_goesWith_71 (by decide) (fun c_11 => ?_) (fun c_11 => ?_)
      · have h := ifp c_11 h
        refine lv_iconst (v := 1) hx hb dX12_goesWith_88 (by decide) ?_
        refine lv_goto (tgt := 93) hx hb dX12_goesWith_89 (by decide) ?_
        exact tX12_goesWith_93 hI   (fun x3 x4 m H locs ls h hP hS hl => ih x3 x4 m H locs ls  h hP hS hl) X x3 x4 1 m _ _ _  h hP hS (lv_sub hl [0, 1, 2] rfl)
      · have h := ifn c_11 h
        refine lv_aload_n hx hb dX12_goesWith_74 rfl (lv_at hl 0 rfl) ?_
        refine lv_aload_n hx hb dX12_goesWith_75 rfl (lv_at hl 0 rfl) ?_
        refine r_get kc_12 13 X hP (by decide) (L_ref _) (by decide) rfl wt_5_185 dX12_goesWith_76 ?_
        refine lv_iconst (v := 3) hx hb dX12_goesWith_79 (by decide) ?_
        obtain ⟨r_24, m_25, hc_26, h⟩ := bd_some h
        refine c_V (rest := []) X hP hS (tX12_its hI  hc_26) (by decide) (L_ref _) rfl wt_6_76 wt_6_78 ws_2_10 wt_1_13 wt_6_79 ⟨rfl, hy_X12_its⟩ ⟨rfl, rfl⟩ ⟨Nat.le_of_ble_eq_true rfl, Nat.le_of_ble_eq_true rfl⟩ rfl hl.1 rfl (Nat.le_of_ble_eq_true rfl) dX12_goesWith_80 rfl (fun H locs hP hS => ?_)
        refine lv_iload hx hb dX12_goesWith_83 (lv_at hl 2 rfl) ?_
        refine lv_icmp_eq (tgt := 92) hx hb dX12_goesWith_85 (by decide) (fun c_27 => ?_) (fun c_27 => ?_)
        · have h := ifp c_27 h
          refine lv_iconst (v := 0) hx hb dX12_goesWith_92 (by decide) ?_
          exact tX12_goesWith_93 hI   (fun x3 x4 m H locs ls h hP hS hl => ih x3 x4 m H locs ls  h hP hS hl) X x3 x4 0 m_25 _ _ _  h hP hS (lv_sub hl [0, 1, 2] rfl)
        · have h := ifn c_27 h
          refine lv_iconst (v := 1) hx hb dX12_goesWith_88 (by decide) ?_
          refine lv_goto (tgt := 93) hx hb dX12_goesWith_89 (by decide) ?_
          exact tX12_goesWith_93 hI   (fun x3 x4 m H locs ls h hP hS hl => ih x3 x4 m H locs ls  h hP hS hl) X x3 x4 1 m_25 _ _ _  h hP hS (lv_sub hl [0, 1, 2] rfl)

def fX12_goesWith (a1 : Int32) (m : Mm) : Option (Int32 × Mm) := lt (a1 - 1) fun x2_1 => lt (up m 0 13 (-1)) fun m_3 => (if x2_1 < 0 then (fX12_goesWith_61  FL 0 0 m_3) else bd (fX12_its x2_1 (4 : Int32) m_3) fun r_28 m_29 => (if r_28 ≤ 0 then (fX12_goesWith_61  FL 0 0 m_29) else bd (fX12_may x2_1 (m_29 1 1) m_29) fun r_32 m_33 => (if r_32 = 0 then (fX12_goesWith_61  FL 0 0 m_33) else bd (fX12_will x2_1 m_33) fun r_36 m_37 => (if r_36 = 2 then (fX12_goesWith_61  FL 0 0 m_37) else bd (fX12_will x2_1 m_37) fun r_40 m_41 => bd (fX12_doesBy x2_1 r_40 m_41) fun r_43 m_44 => (fX12_goesWith_61  FL r_43 0 m_44)))))
set_option maxHeartbeats 4000000 in
set_option maxRecDepth 100000 in
theorem tX12_goesWith {l : Launch} {D : va_G} {cA : Nat → ClassId} {A : Nat → Nat} (hI : InjA rN A) {a1 : Int32} {m m' : Mm} {r : Int32} (h : fX12_goesWith a1 m = some (r, m')) : Met0 l yX12_goesWith cX12_goesWith 6 (some .int) { frames := 4, cells := 0, slots := 0, locals := 95 } rLay rN D cA A [.ref (A 0), .int a1] m (some (.int r)) m' := by
  refine met0_of (by decide) (Nat.le_of_ble_eq_true rfl) hI ?_
  intro p e s m0 below meth c ls X hinit hP hS hl
  generalize ([.ref (A 0), .int a1] : List Value).toArray = args at X ⊢
  have hl : lv_has ls 6 [(0, .ref (A 0)), (1, .int a1)] := hl
  have X : CX rLay rN D cA A p s m0 args meth c "BenchTowelsModel" cX12_goesWith 6 (some .int) := X
  have hx := X.1
  have hb := X.2.1
  have hml := X.2.2.1
  have hown := X.2.2.2.1
  have hts := X.2.2.2.2.1
  have hF := X.2.2.2.2.2.2.2.2.1
  rewrite [fX12_goesWith] at h
  refine lv_iload_n hx hb dX12_goesWith_0 rfl (lv_at hl 1 rfl) ?_
  refine lv_iconst (v := 1) hx hb dX12_goesWith_1 (by decide) ?_
  refine lv_isub hx hb dX12_goesWith_2 ?_
  obtain ⟨x2_1, ex_2, h⟩ := lt_some h
  refine lv_ren ex_2 ?_
  refine lv_istore_n (lv' := [(2, .int x2_1), (0, .ref (A 0)), (1, .int a1)]) hx hb dX12_goesWith_3 rfl hl (by decide) rfl (fun ls hl => ?_)
  refine lv_aload_n hx hb dX12_goesWith_4 rfl (lv_at hl 1 rfl) ?_
  refine lv_iconst (v := (-1)) hx hb dX12_goesWith_5 (by decide) ?_
  obtain ⟨m_3, em_4, h⟩ := lt_some h
  refine r_put kc_12 13 X hP hS (by decide) (L_ref _) (L_ref _) (by decide) wt_5_185 rfl (by decide +kernel) (Nat.le_of_ble_eq_true rfl) dX12_goesWith_6 em_4 (fun H locs hP hS => ?_)
  refine lv_iconst (v := 0) hx hb dX12_goesWith_9 (by decide) ?_
  refine lv_istore_n (lv' := [(3, .int 0), (2, .int x2_1), (0, .ref (A 0)), (1, .int a1)]) hx hb dX12_goesWith_10 rfl hl (by decide) rfl (fun ls hl => ?_)
  refine lv_iload_n hx hb dX12_goesWith_11 rfl (lv_at hl 1 rfl) ?_
  refine lv_if_lt (tgt := 58) hx hb dX12_goesWith_12 (by decide) (fun c_5 => ?_) (fun c_5 => ?_)
  · have h := ifp c_5 h
    refine lv_iconst (v := 0) hx hb dX12_goesWith_58 (by decide) ?_
    refine lv_istore (lv' := [(4, .int 0), (3, .int 0), (2, .int x2_1), (0, .ref (A 0)), (1, .int a1)]) hx hb dX12_goesWith_59 hl (by decide) rfl (fun ls hl => ?_)
    exact tX12_goesWith_61 hI    X FL 0 0 m_3 _ _ _  h hP hS (lv_sub hl [3, 1, 0] rfl)
  · have h := ifn c_5 h
    refine lv_aload_n hx hb dX12_goesWith_15 rfl (lv_at hl 2 rfl) ?_
    refine lv_iload_n hx hb dX12_goesWith_16 rfl (lv_at hl 1 rfl) ?_
    refine lv_iconst (v := 4) hx hb dX12_goesWith_17 (by decide) ?_
    obtain ⟨r_28, m_29, hc_30, h⟩ := bd_some h
    refine c_V (rest := []) X hP hS (tX12_its hI  hc_30) (by decide) (L_ref _) rfl wt_6_76 wt_6_78 ws_2_10 wt_1_13 wt_6_79 ⟨rfl, hy_X12_its⟩ ⟨rfl, rfl⟩ ⟨Nat.le_of_ble_eq_true rfl, Nat.le_of_ble_eq_true rfl⟩ rfl hl.1 rfl (Nat.le_of_ble_eq_true rfl) dX12_goesWith_18 rfl (fun H locs hP hS => ?_)
    refine lv_if_le (tgt := 58) hx hb dX12_goesWith_21 (by decide) (fun c_31 => ?_) (fun c_31 => ?_)
    · have h := ifp c_31 h
      refine lv_iconst (v := 0) hx hb dX12_goesWith_58 (by decide) ?_
      refine lv_istore (lv' := [(4, .int 0), (3, .int 0), (2, .int x2_1), (0, .ref (A 0)), (1, .int a1)]) hx hb dX12_goesWith_59 hl (by decide) rfl (fun ls hl => ?_)
      exact tX12_goesWith_61 hI    X FL 0 0 m_29 _ _ _  h hP hS (lv_sub hl [3, 1, 0] rfl)
    · have h := ifn c_31 h
      refine lv_aload_n hx hb dX12_goesWith_24 rfl (lv_at hl 2 rfl) ?_
      refine lv_iload_n hx hb dX12_goesWith_25 rfl (lv_at hl 1 rfl) ?_
      refine lv_aload_n hx hb dX12_goesWith_26 rfl (lv_at hl 2 rfl) ?_
      refine r_get kc_12 0 X hP (by decide) (L_ref _) (by decide) rfl wt_5_172 dX12_goesWith_27 ?_
      refine lv_iconst (v := 1) hx hb dX12_goesWith_30 (by decide) ?_
      refine r_iald X hP (by decide) (Lr_1 _) (vpc (by decide)) ixc_1 dX12_goesWith_31 ?_
      obtain ⟨r_32, m_33, hc_34, h⟩ := bd_some h
      refine c_V (rest := []) X hP hS (tX12_may hI  hc_34) (by decide) (L_ref _) rfl wt_6_72 wt_6_74 ws_2_9 wt_1_13 wt_6_75 ⟨rfl, hy_X12_may⟩ ⟨rfl, rfl⟩ ⟨Nat.le_of_ble_eq_true rfl, Nat.le_of_ble_eq_true rfl⟩ rfl hl.1 rfl (Nat.le_of_ble_eq_true rfl) dX12_goesWith_32 rfl (fun H locs hP hS => ?_)
      refine lv_if_eq (tgt := 58) hx hb dX12_goesWith_35 (by decide) (fun c_35 => ?_) (fun c_35 => ?_)
      · have h := ifp c_35 h
        refine lv_iconst (v := 0) hx hb dX12_goesWith_58 (by decide) ?_
        refine lv_istore (lv' := [(4, .int 0), (3, .int 0), (2, .int x2_1), (0, .ref (A 0)), (1, .int a1)]) hx hb dX12_goesWith_59 hl (by decide) rfl (fun ls hl => ?_)
        exact tX12_goesWith_61 hI    X FL 0 0 m_33 _ _ _  h hP hS (lv_sub hl [3, 1, 0] rfl)
      · have h := ifn c_35 h
        refine lv_aload_n hx hb dX12_goesWith_38 rfl (lv_at hl 2 rfl) ?_
        refine lv_iload_n hx hb dX12_goesWith_39 rfl (lv_at hl 1 rfl) ?_
        obtain ⟨r_36, m_37, hc_38, h⟩ := bd_some h
        refine c_V (rest := []) X hP hS (tX12_will hI  hc_38) (by decide) (L_ref _) rfl wt_6_92 wt_6_94 ws_2_14 wt_1_13 wt_6_95 ⟨rfl, hy_X12_will⟩ ⟨rfl, rfl⟩ ⟨Nat.le_of_ble_eq_true rfl, Nat.le_of_ble_eq_true rfl⟩ rfl hl.1 rfl (Nat.le_of_ble_eq_true rfl) dX12_goesWith_40 rfl (fun H locs hP hS => ?_)
        refine lv_iconst (v := 2) hx hb dX12_goesWith_43 (by decide) ?_
        refine lv_icmp_eq (tgt := 58) hx hb dX12_goesWith_44 (by decide) (fun c_39 => ?_) (fun c_39 => ?_)
        · have h := ifp c_39 h
          refine lv_iconst (v := 0) hx hb dX12_goesWith_58 (by decide) ?_
          refine lv_istore (lv' := [(4, .int 0), (3, .int 0), (2, .int x2_1), (0, .ref (A 0)), (1, .int a1)]) hx hb dX12_goesWith_59 hl (by decide) rfl (fun ls hl => ?_)
          exact tX12_goesWith_61 hI    X FL 0 0 m_37 _ _ _  h hP hS (lv_sub hl [3, 1, 0] rfl)
        · have h := ifn c_39 h
          refine lv_aload_n hx hb dX12_goesWith_47 rfl (lv_at hl 2 rfl) ?_
          refine lv_iload_n hx hb dX12_goesWith_48 rfl (lv_at hl 1 rfl) ?_
          refine lv_aload_n hx hb dX12_goesWith_49 rfl (lv_at hl 2 rfl) ?_
          refine lv_iload_n hx hb dX12_goesWith_50 rfl (lv_at hl 1 rfl) ?_
          obtain ⟨r_40, m_41, hc_42, h⟩ := bd_some h
          refine c_V (rest := [.int x2_1, .ref (A 0)]) X hP hS (tX12_will hI  hc_42) (by decide) (L_ref _) rfl wt_6_92 wt_6_94 ws_2_14 wt_1_13 wt_6_95 ⟨rfl, hy_X12_will⟩ ⟨rfl, rfl⟩ ⟨Nat.le_of_ble_eq_true rfl, Nat.le_of_ble_eq_true rfl⟩ rfl hl.1 rfl (Nat.le_of_ble_eq_true rfl) dX12_goesWith_51 rfl (fun H locs hP hS => ?_)
          obtain ⟨r_43, m_44, hc_45, h⟩ := bd_some h
          refine c_V (rest := []) X hP hS (tX12_doesBy hI  hc_45) (by decide) (L_ref _) rfl wt_7_10 wt_7_12 ws_4_7 wt_1_13 wt_7_13 ⟨rfl, hy_X12_doesBy⟩ ⟨rfl, rfl⟩ ⟨Nat.le_of_ble_eq_true rfl, Nat.le_of_ble_eq_true rfl⟩ rfl hl.1 rfl (Nat.le_of_ble_eq_true rfl) dX12_goesWith_54 rfl (fun H locs hP hS => ?_)
          refine lv_istore_n (lv' := [(3, .int r_43), (2, .int x2_1), (0, .ref (A 0)), (1, .int a1)]) hx hb dX12_goesWith_57 rfl hl (by decide) rfl (fun ls hl => ?_)
          refine lv_iconst (v := 0) hx hb dX12_goesWith_58 (by decide) ?_
          refine lv_istore (lv' := [(4, .int 0), (3, .int r_43), (2, .int x2_1), (0, .ref (A 0)), (1, .int a1)]) hx hb dX12_goesWith_59 hl (by decide) rfl (fun ls hl => ?_)
          exact tX12_goesWith_61 hI    X FL r_43 0 m_44 _ _ _  h hP hS (lv_sub hl [3, 1, 0] rfl)

def fX12_restAct_2  : Nat → Int32 → Mm → Option (Int32 × Mm)
  | 0, _, _ => none
  | n + 1, x1, m => (if ((m 1 0) : Int32) ≤ x1 then some (0, m) else bd (fX12_its x1 (4 : Int32) m) fun r_2 m_3 => (if r_2 ≤ 0 then lt ((x1 : Int32) + 1) fun x1_6 => (fX12_restAct_2 n x1_6 m_3) else bd (fX12_may x1 (m_3 1 1) m_3) fun r_8 m_9 => (if r_8 = 0 then lt ((x1 : Int32) + 1) fun x1_12 => (fX12_restAct_2 n x1_12 m_9) else some ((x1 + 1), m_9))))
set_option maxHeartbeats 4000000 in
set_option maxRecDepth 100000 in
theorem tX12_restAct_2 (hI : InjA rN A)  {r : Int32} {m' : Mm} (X : CX rLay rN D cA A p s m0 args meth c "BenchTowelsModel" cX12_restAct 2 (some .int)) : ∀ (n : Nat) (x1 : Int32) (m : Mm) (H : Heap) (locs : List Loc) (ls : Array Slot), fX12_restAct_2 n x1 m = some (r, m') → va_P D vwCl (wsOf rLay rN cA A m) H → va_S (AW rN A) s.heap H locs → lv_has ls 2 [(0, .ref (A 0)), (1, .int x1)] → W p l e { frames := 3, cells := 0, slots := 0, locals := 66 } s m0 args below meth c H locs 0 0 (ZR below args s rLay rN D cA A (some (.int r)) m') (F0 m0 2 ls []) := by
  have hx := X.1
  have hb := X.2.1
  have hml := X.2.2.1
  have hown := X.2.2.2.1
  have hts := X.2.2.2.2.1
  have hF := X.2.2.2.2.2.2.2.2.1
  intro n
  induction n with
  | zero =>
    intro x1 m H locs ls h hP hS hl
    exact absurd h (by rewrite [fX12_restAct_2]; exact fun q => by cases q)
  | succ n ih =>
    intro x1 m H locs ls h hP hS hl
    rewrite [fX12_restAct_2] at h
    refine lv_iload_n hx hb dX12_restAct_2 rfl (lv_at hl 1 rfl) ?_
    refine lv_aload_n hx hb dX12_restAct_3 rfl (lv_at hl 0 rfl) ?_
    refine r_get kc_12 0 X hP (by decide) (L_ref _) (by decide) rfl wt_5_172 dX12_restAct_4 ?_
    refine lv_iconst (v := 0) hx hb dX12_restAct_7 (by decide) ?_
    refine r_iald X hP (by decide) (Lr_1 _) (vpc (by decide)) ixc_0 dX12_restAct_8 ?_
    refine lv_icmp_ge (tgt := 45) hx hb dX12_restAct_9 (by decide) (fun c_1 => ?_) (fun c_1 => ?_)
    · have h := ifp c_1 h
      refine lv_iconst (v := 0) hx hb dX12_restAct_45 (by decide) ?_
      exact r_iret X hP hS dX12_restAct_46 h
    · have h := ifn c_1 h
      refine lv_aload_n hx hb dX12_restAct_12 rfl (lv_at hl 0 rfl) ?_
      refine lv_iload_n hx hb dX12_restAct_13 rfl (lv_at hl 1 rfl) ?_
      refine lv_iconst (v := 4) hx hb dX12_restAct_14 (by decide) ?_
      obtain ⟨r_2, m_3, hc_4, h⟩ := bd_some h
      refine c_V (rest := []) X hP hS (tX12_its hI  hc_4) (by decide) (L_ref _) rfl wt_6_76 wt_6_78 ws_2_10 wt_1_13 wt_6_79 ⟨rfl, hy_X12_its⟩ ⟨rfl, rfl⟩ ⟨Nat.le_of_ble_eq_true rfl, Nat.le_of_ble_eq_true rfl⟩ rfl hl.1 rfl (Nat.le_of_ble_eq_true rfl) dX12_restAct_15 rfl (fun H locs hP hS => ?_)
      refine lv_if_le (tgt := 39) hx hb dX12_restAct_18 (by decide) (fun c_5 => ?_) (fun c_5 => ?_)
      · have h := ifp c_5 h
        obtain ⟨x1_6, ex_7, h⟩ := lt_some h
        refine lv_iinc (v := x1_6) (lv' := [(1, .int x1_6), (0, .ref (A 0))]) hx hb dX12_restAct_39 hl (k := 1) rfl (by rw [ex_7]; rfl) (by decide) rfl (fun ls hl => ?_)
        refine lv_goto (tgt := 2) hx hb dX12_restAct_42 (by decide) ?_
        exact ih x1_6 m_3 _ _ _  h hP hS (lv_sub hl [1, 0] rfl)
      · have h := ifn c_5 h
        refine lv_aload_n hx hb dX12_restAct_21 rfl (lv_at hl 0 rfl) ?_
        refine lv_iload_n hx hb dX12_restAct_22 rfl (lv_at hl 1 rfl) ?_
        refine lv_aload_n hx hb dX12_restAct_23 rfl (lv_at hl 0 rfl) ?_
        refine r_get kc_12 0 X hP (by decide) (L_ref _) (by decide) rfl wt_5_172 dX12_restAct_24 ?_
        refine lv_iconst (v := 1) hx hb dX12_restAct_27 (by decide) ?_
        refine r_iald X hP (by decide) (Lr_1 _) (vpc (by decide)) ixc_1 dX12_restAct_28 ?_
        obtain ⟨r_8, m_9, hc_10, h⟩ := bd_some h
        refine c_V (rest := []) X hP hS (tX12_may hI  hc_10) (by decide) (L_ref _) rfl wt_6_72 wt_6_74 ws_2_9 wt_1_13 wt_6_75 ⟨rfl, hy_X12_may⟩ ⟨rfl, rfl⟩ ⟨Nat.le_of_ble_eq_true rfl, Nat.le_of_ble_eq_true rfl⟩ rfl hl.1 rfl (Nat.le_of_ble_eq_true rfl) dX12_restAct_29 rfl (fun H locs hP hS => ?_)
        refine lv_if_eq (tgt := 39) hx hb dX12_restAct_32 (by decide) (fun c_11 => ?_) (fun c_11 => ?_)
        · have h := ifp c_11 h
          obtain ⟨x1_12, ex_13, h⟩ := lt_some h
          refine lv_iinc (v := x1_12) (lv' := [(1, .int x1_12), (0, .ref (A 0))]) hx hb dX12_restAct_39 hl (k := 1) rfl (by rw [ex_13]; rfl) (by decide) rfl (fun ls hl => ?_)
          refine lv_goto (tgt := 2) hx hb dX12_restAct_42 (by decide) ?_
          exact ih x1_12 m_9 _ _ _  h hP hS (lv_sub hl [1, 0] rfl)
        · have h := ifn c_11 h
          refine lv_iload_n hx hb dX12_restAct_35 rfl (lv_at hl 1 rfl) ?_
          refine lv_iconst (v := 1) hx hb dX12_restAct_36 (by decide) ?_
          refine lv_iadd hx hb dX12_restAct_37 ?_
          exact r_iret X hP hS dX12_restAct_38 h

def fX12_restAct  (m : Mm) : Option (Int32 × Mm) := (fX12_restAct_2  FL 0 m)
set_option maxHeartbeats 4000000 in
set_option maxRecDepth 100000 in
theorem tX12_restAct {l : Launch} {D : va_G} {cA : Nat → ClassId} {A : Nat → Nat} (hI : InjA rN A) {m m' : Mm} {r : Int32} (h : fX12_restAct m = some (r, m')) : Met0 l yX12_restAct cX12_restAct 2 (some .int) { frames := 3, cells := 0, slots := 0, locals := 66 } rLay rN D cA A [.ref (A 0)] m (some (.int r)) m' := by
  refine met0_of (by decide) (Nat.le_of_ble_eq_true rfl) hI ?_
  intro p e s m0 below meth c ls X hinit hP hS hl
  generalize ([.ref (A 0)] : List Value).toArray = args at X ⊢
  have hl : lv_has ls 2 [(0, .ref (A 0))] := hl
  have X : CX rLay rN D cA A p s m0 args meth c "BenchTowelsModel" cX12_restAct 2 (some .int) := X
  have hx := X.1
  have hb := X.2.1
  have hml := X.2.2.1
  have hown := X.2.2.2.1
  have hts := X.2.2.2.2.1
  have hF := X.2.2.2.2.2.2.2.2.1
  rewrite [fX12_restAct] at h
  refine lv_iconst (v := 0) hx hb dX12_restAct_0 (by decide) ?_
  refine lv_istore_n (lv' := [(1, .int 0), (0, .ref (A 0))]) hx hb dX12_restAct_1 rfl hl (by decide) rfl (fun ls hl => ?_)
  exact tX12_restAct_2 hI    X FL 0 m _ _ _  h hP hS (lv_sub hl [1, 0] rfl)

def fX12_minute  (m : Mm) : Option (Int32 × Mm) := bd (fX12_isOver m) fun r_1 m_2 => (if r_1 = 0 then bd (fX12_restAct m_2) fun r_5 m_6 => bd (fX12_goesWith r_5 m_6) fun r_8 m_9 => some (r_8, m_9) else some ((-4), m_2))
set_option maxHeartbeats 4000000 in
set_option maxRecDepth 100000 in
theorem tX12_minute {l : Launch} {D : va_G} {cA : Nat → ClassId} {A : Nat → Nat} (hI : InjA rN A) {m m' : Mm} {r : Int32} (h : fX12_minute m = some (r, m')) : Met0 l yX12_minute cX12_minute 1 (some .int) { frames := 5, cells := 0, slots := 0, locals := 120 } rLay rN D cA A [.ref (A 0)] m (some (.int r)) m' := by
  refine met0_of (by decide) (Nat.le_of_ble_eq_true rfl) hI ?_
  intro p e s m0 below meth c ls X hinit hP hS hl
  generalize ([.ref (A 0)] : List Value).toArray = args at X ⊢
  have hl : lv_has ls 1 [(0, .ref (A 0))] := hl
  have X : CX rLay rN D cA A p s m0 args meth c "BenchTowelsModel" cX12_minute 1 (some .int) := X
  have hx := X.1
  have hb := X.2.1
  have hml := X.2.2.1
  have hown := X.2.2.2.1
  have hts := X.2.2.2.2.1
  have hF := X.2.2.2.2.2.2.2.2.1
  rewrite [fX12_minute] at h
  refine lv_aload_n hx hb dX12_minute_0 rfl (lv_at hl 0 rfl) ?_
  obtain ⟨r_1, m_2, hc_3, h⟩ := bd_some h
  refine c_V (rest := []) X hP hS (tX12_isOver hI  hc_3) (by decide) (L_ref _) rfl wt_6_147 wt_6_149 ws_3_2 wt_1_13 wt_6_150 ⟨rfl, hy_X12_isOver⟩ ⟨rfl, rfl⟩ ⟨Nat.le_of_ble_eq_true rfl, Nat.le_of_ble_eq_true rfl⟩ rfl hl.1 rfl (Nat.le_of_ble_eq_true rfl) dX12_minute_1 rfl (fun H locs hP hS => ?_)
  refine lv_if_eq (tgt := 12) hx hb dX12_minute_4 (by decide) (fun c_4 => ?_) (fun c_4 => ?_)
  · have h := ifp c_4 h
    refine lv_aload_n hx hb dX12_minute_12 rfl (lv_at hl 0 rfl) ?_
    refine lv_aload_n hx hb dX12_minute_13 rfl (lv_at hl 0 rfl) ?_
    obtain ⟨r_5, m_6, hc_7, h⟩ := bd_some h
    refine c_V (rest := [.ref (A 0)]) X hP hS (tX12_restAct hI  hc_7) (by decide) (L_ref _) rfl wt_7_2 wt_7_4 ws_4_5 wt_1_13 wt_7_5 ⟨rfl, hy_X12_restAct⟩ ⟨rfl, rfl⟩ ⟨Nat.le_of_ble_eq_true rfl, Nat.le_of_ble_eq_true rfl⟩ rfl hl.1 rfl (Nat.le_of_ble_eq_true rfl) dX12_minute_14 rfl (fun H locs hP hS => ?_)
    obtain ⟨r_8, m_9, hc_10, h⟩ := bd_some h
    refine c_V (rest := []) X hP hS (tX12_goesWith hI  hc_10) (by decide) (L_ref _) rfl wt_7_6 wt_7_8 ws_4_6 wt_1_13 wt_7_9 ⟨rfl, hy_X12_goesWith⟩ ⟨rfl, rfl⟩ ⟨Nat.le_of_ble_eq_true rfl, Nat.le_of_ble_eq_true rfl⟩ rfl hl.1 rfl (Nat.le_of_ble_eq_true rfl) dX12_minute_17 rfl (fun H locs hP hS => ?_)
    exact r_iret X hP hS dX12_minute_20 h
  · have h := ifn c_4 h
    refine lv_bipush (v := (-4)) hx hb dX12_minute_7 (by decide) ?_
    refine lv_goto (tgt := 20) hx hb dX12_minute_9 (by decide) ?_
    exact r_iret X hP hS dX12_minute_20 h

def fX12_onBy_38  (x2 : Int32) (m : Mm) : Option (Int32 × Mm) := bd (fX12_laysBack (0 : Int32) m) fun r_5 m_6 => some (x2, m_6)
set_option maxHeartbeats 4000000 in
set_option maxRecDepth 100000 in
theorem tX12_onBy_38 (hI : InjA rN A)  {r : Int32} {m' : Mm} (X : CX rLay rN D cA A p s m0 args meth c "BenchTowelsModel" cX12_onBy 4 (some .int)) : ∀ (x2 : Int32) (m : Mm) (H : Heap) (locs : List Loc) (ls : Array Slot), fX12_onBy_38 x2 m = some (r, m') → va_P D vwCl (wsOf rLay rN cA A m) H → va_S (AW rN A) s.heap H locs → lv_has ls 4 [(0, .ref (A 0)), (2, .int x2)] → W p l e { frames := 5, cells := 0, slots := 0, locals := 120 } s m0 args below meth c H locs 0 0 (ZR below args s rLay rN D cA A (some (.int r)) m') (F0 m0 38 ls []) := by
  have hx := X.1
  have hb := X.2.1
  have hml := X.2.2.1
  have hown := X.2.2.2.1
  have hts := X.2.2.2.2.1
  have hF := X.2.2.2.2.2.2.2.2.1
  intro x2 m H locs ls h hP hS hl
  rewrite [fX12_onBy_38] at h
  refine lv_aload_n hx hb dX12_onBy_38 rfl (lv_at hl 0 rfl) ?_
  refine lv_iconst (v := 0) hx hb dX12_onBy_39 (by decide) ?_
  obtain ⟨r_5, m_6, hc_7, h⟩ := bd_some h
  refine c_V (rest := []) X hP hS (tX12_laysBack hI  hc_7) (by decide) (L_ref _) rfl wt_7_32 wt_7_34 ws_4_10 wt_1_13 wt_7_35 ⟨rfl, hy_X12_laysBack⟩ ⟨rfl, rfl⟩ ⟨Nat.le_of_ble_eq_true rfl, Nat.le_of_ble_eq_true rfl⟩ rfl hl.1 rfl (Nat.le_of_ble_eq_true rfl) dX12_onBy_40 rfl (fun H locs hP hS => ?_)
  refine lv_iload_n hx hb dX12_onBy_43 rfl (lv_at hl 1 rfl) ?_
  exact r_iret X hP hS dX12_onBy_44 h

def fX12_onBy_9  : Nat → Int32 → Int32 → Int32 → Mm → Option (Int32 × Mm)
  | 0, _, _, _, _ => none
  | n + 1, x1, x2, x3, m => (if (x1 : Int32) ≤ x3 then fX12_onBy_38  x2 m else bd (fX12_isOver m) fun r_8 m_9 => (if r_8 = 0 then bd (fX12_restAct m_9) fun r_12 m_13 => bd (fX12_goesWith r_12 m_13) fun r_15 m_16 => lt (x2 + r_15) fun x2_18 => lt ((x3 : Int32) + 1) fun x3_20 => (fX12_onBy_9 n x1 x2_18 x3_20 m_16) else fX12_onBy_38  x2 m_9))
set_option maxHeartbeats 4000000 in
set_option maxRecDepth 100000 in
theorem tX12_onBy_9 (hI : InjA rN A)  {r : Int32} {m' : Mm} (X : CX rLay rN D cA A p s m0 args meth c "BenchTowelsModel" cX12_onBy 4 (some .int)) : ∀ (n : Nat) (x1 : Int32) (x2 : Int32) (x3 : Int32) (m : Mm) (H : Heap) (locs : List Loc) (ls : Array Slot), fX12_onBy_9 n x1 x2 x3 m = some (r, m') → va_P D vwCl (wsOf rLay rN cA A m) H → va_S (AW rN A) s.heap H locs → lv_has ls 4 [(0, .ref (A 0)), (1, .int x1), (2, .int x2), (3, .int x3)] → W p l e { frames := 5, cells := 0, slots := 0, locals := 120 } s m0 args below meth c H locs 0 0 (ZR below args s rLay rN D cA A (some (.int r)) m') (F0 m0 9 ls []) := by
  have hx := X.1
  have hb := X.2.1
  have hml := X.2.2.1
  have hown := X.2.2.2.1
  have hts := X.2.2.2.2.1
  have hF := X.2.2.2.2.2.2.2.2.1
  intro n
  induction n with
  | zero =>
    intro x1 x2 x3 m H locs ls h hP hS hl
    exact absurd h (by rewrite [fX12_onBy_9]; exact fun q => by cases q)
  | succ n ih =>
    intro x1 x2 x3 m H locs ls h hP hS hl
    rewrite [fX12_onBy_9] at h
    refine lv_iload_n hx hb dX12_onBy_9 rfl (lv_at hl 3 rfl) ?_
    refine lv_iload_n hx hb dX12_onBy_10 rfl (lv_at hl 1 rfl) ?_
    refine lv_icmp_ge (tgt := 38) hx hb dX12_onBy_11 (by decide) (fun c_4 => ?_) (fun c_4 => ?_)
    · have h := ifp c_4 h
      exact tX12_onBy_38 hI    X x2 m _ _ _  h hP hS (lv_sub hl [0, 2] rfl)
    · have h := ifn c_4 h
      refine lv_aload_n hx hb dX12_onBy_14 rfl (lv_at hl 0 rfl) ?_
      obtain ⟨r_8, m_9, hc_10, h⟩ := bd_some h
      refine c_V (rest := []) X hP hS (tX12_isOver hI  hc_10) (by decide) (L_ref _) rfl wt_6_147 wt_6_149 ws_3_2 wt_1_13 wt_6_150 ⟨rfl, hy_X12_isOver⟩ ⟨rfl, rfl⟩ ⟨Nat.le_of_ble_eq_true rfl, Nat.le_of_ble_eq_true rfl⟩ rfl hl.1 rfl (Nat.le_of_ble_eq_true rfl) dX12_onBy_15 rfl (fun H locs hP hS => ?_)
      refine lv_if_ne (tgt := 38) hx hb dX12_onBy_18 (by decide) (fun c_11 => ?_) (fun c_11 => ?_)
      · have h := ifn c_11 h
        exact tX12_onBy_38 hI    X x2 m_9 _ _ _  h hP hS (lv_sub hl [0, 2] rfl)
      · have h := ifp c_11 h
        refine lv_iload_n hx hb dX12_onBy_21 rfl (lv_at hl 2 rfl) ?_
        refine lv_aload_n hx hb dX12_onBy_22 rfl (lv_at hl 0 rfl) ?_
        refine lv_aload_n hx hb dX12_onBy_23 rfl (lv_at hl 0 rfl) ?_
        obtain ⟨r_12, m_13, hc_14, h⟩ := bd_some h
        refine c_V (rest := [.ref (A 0), .int x2]) X hP hS (tX12_restAct hI  hc_14) (by decide) (L_ref _) rfl wt_7_2 wt_7_4 ws_4_5 wt_1_13 wt_7_5 ⟨rfl, hy_X12_restAct⟩ ⟨rfl, rfl⟩ ⟨Nat.le_of_ble_eq_true rfl, Nat.le_of_ble_eq_true rfl⟩ rfl hl.1 rfl (Nat.le_of_ble_eq_true rfl) dX12_onBy_24 rfl (fun H locs hP hS => ?_)
        obtain ⟨r_15, m_16, hc_17, h⟩ := bd_some h
        refine c_V (rest := [.int x2]) X hP hS (tX12_goesWith hI  hc_17) (by decide) (L_ref _) rfl wt_7_6 wt_7_8 ws_4_6 wt_1_13 wt_7_9 ⟨rfl, hy_X12_goesWith⟩ ⟨rfl, rfl⟩ ⟨Nat.le_of_ble_eq_true rfl, Nat.le_of_ble_eq_true rfl⟩ rfl hl.1 rfl (Nat.le_of_ble_eq_true rfl) dX12_onBy_27 rfl (fun H locs hP hS => ?_)
        refine lv_iadd hx hb dX12_onBy_30 ?_
        obtain ⟨x2_18, ex_19, h⟩ := lt_some h
        refine lv_ren ex_19 ?_
        refine lv_istore_n (lv' := [(2, .int x2_18), (0, .ref (A 0)), (1, .int x1), (3, .int x3)]) hx hb dX12_onBy_31 rfl hl (by decide) rfl (fun ls hl => ?_)
        obtain ⟨x3_20, ex_21, h⟩ := lt_some h
        refine lv_iinc (v := x3_20) (lv' := [(3, .int x3_20), (2, .int x2_18), (0, .ref (A 0)), (1, .int x1)]) hx hb dX12_onBy_32 hl (k := 3) rfl (by rw [ex_21]; rfl) (by decide) rfl (fun ls hl => ?_)
        refine lv_goto (tgt := 9) hx hb dX12_onBy_35 (by decide) ?_
        exact ih x1 x2_18 x3_20 m_16 _ _ _  h hP hS (lv_sub hl [2, 3, 1, 0] rfl)

def fX12_onBy (a1 : Int32) (m : Mm) : Option (Int32 × Mm) := bd (fX12_laysAside (0 : Int32) m) fun r_1 m_2 => (fX12_onBy_9  FL a1 0 0 m_2)
set_option maxHeartbeats 4000000 in
set_option maxRecDepth 100000 in
theorem tX12_onBy {l : Launch} {D : va_G} {cA : Nat → ClassId} {A : Nat → Nat} (hI : InjA rN A) {a1 : Int32} {m m' : Mm} {r : Int32} (h : fX12_onBy a1 m = some (r, m')) : Met0 l yX12_onBy cX12_onBy 4 (some .int) { frames := 5, cells := 0, slots := 0, locals := 120 } rLay rN D cA A [.ref (A 0), .int a1] m (some (.int r)) m' := by
  refine met0_of (by decide) (Nat.le_of_ble_eq_true rfl) hI ?_
  intro p e s m0 below meth c ls X hinit hP hS hl
  generalize ([.ref (A 0), .int a1] : List Value).toArray = args at X ⊢
  have hl : lv_has ls 4 [(0, .ref (A 0)), (1, .int a1)] := hl
  have X : CX rLay rN D cA A p s m0 args meth c "BenchTowelsModel" cX12_onBy 4 (some .int) := X
  have hx := X.1
  have hb := X.2.1
  have hml := X.2.2.1
  have hown := X.2.2.2.1
  have hts := X.2.2.2.2.1
  have hF := X.2.2.2.2.2.2.2.2.1
  rewrite [fX12_onBy] at h
  refine lv_aload_n hx hb dX12_onBy_0 rfl (lv_at hl 0 rfl) ?_
  refine lv_iconst (v := 0) hx hb dX12_onBy_1 (by decide) ?_
  obtain ⟨r_1, m_2, hc_3, h⟩ := bd_some h
  refine c_V (rest := []) X hP hS (tX12_laysAside hI  hc_3) (by decide) (L_ref _) rfl wt_7_28 wt_7_30 ws_4_9 wt_1_13 wt_7_31 ⟨rfl, hy_X12_laysAside⟩ ⟨rfl, rfl⟩ ⟨Nat.le_of_ble_eq_true rfl, Nat.le_of_ble_eq_true rfl⟩ rfl hl.1 rfl (Nat.le_of_ble_eq_true rfl) dX12_onBy_2 rfl (fun H locs hP hS => ?_)
  refine lv_iconst (v := 0) hx hb dX12_onBy_5 (by decide) ?_
  refine lv_istore_n (lv' := [(2, .int 0), (0, .ref (A 0)), (1, .int a1)]) hx hb dX12_onBy_6 rfl hl (by decide) rfl (fun ls hl => ?_)
  refine lv_iconst (v := 0) hx hb dX12_onBy_7 (by decide) ?_
  refine lv_istore_n (lv' := [(3, .int 0), (2, .int 0), (0, .ref (A 0)), (1, .int a1)]) hx hb dX12_onBy_8 rfl hl (by decide) rfl (fun ls hl => ?_)
  exact tX12_onBy_9 hI    X FL a1 0 0 m_2 _ _ _  h hP hS (lv_sub hl [2, 3, 1, 0] rfl)

def fX12_on (a1 : Int32) (m : Mm) : Option (Int32 × Mm) := bd (fX12_isIn (Int32.toInt64 a1) (0 : Int64) (16 : Int64) m) fun r_1 m_2 => (if r_1 = 0 then some ((-1), m_2) else bd (fX12_onBy a1 m_2) fun r_5 m_6 => some (r_5, m_6))
set_option maxHeartbeats 4000000 in
set_option maxRecDepth 100000 in
theorem tX12_on {l : Launch} {D : va_G} {cA : Nat → ClassId} {A : Nat → Nat} (hI : InjA rN A) {a1 : Int32} {m m' : Mm} {r : Int32} (h : fX12_on a1 m = some (r, m')) : Met0 l yX12_on cX12_on 2 (some .int) { frames := 6, cells := 0, slots := 0, locals := 143 } rLay rN D cA A [.ref (A 0), .int a1] m (some (.int r)) m' := by
  refine met0_of (by decide) (Nat.le_of_ble_eq_true rfl) hI ?_
  intro p e s m0 below meth c ls X hinit hP hS hl
  generalize ([.ref (A 0), .int a1] : List Value).toArray = args at X ⊢
  have hl : lv_has ls 2 [(0, .ref (A 0)), (1, .int a1)] := hl
  have X : CX rLay rN D cA A p s m0 args meth c "BenchTowelsModel" cX12_on 2 (some .int) := X
  have hx := X.1
  have hb := X.2.1
  have hml := X.2.2.1
  have hown := X.2.2.2.1
  have hts := X.2.2.2.2.1
  have hF := X.2.2.2.2.2.2.2.2.1
  rewrite [fX12_on] at h
  refine lv_iload_n hx hb dX12_on_0 rfl (lv_at hl 1 rfl) ?_
  refine lv_i2l hx hb dX12_on_1 rfl ?_
  refine lv_lconst (v := 0) hx hb dX12_on_2 (by decide) ?_
  refine lv_ldc2 (v := 16) hx hb hown (hts _ wt_6_138) dX12_on_3 ?_
  obtain ⟨r_1, m_2, hc_3, h⟩ := bd_some h
  refine c_S (rest := []) X hP hS (tX12_isIn hI  hc_3) wt_6_55 wt_6_56 wt_1_13 wt_6_57 hy_X12_isIn ⟨rfl, rfl⟩ ⟨Nat.le_of_ble_eq_true rfl, Nat.le_of_ble_eq_true rfl⟩ rfl hl.1 rfl (Nat.le_of_ble_eq_true rfl) dX12_on_6 rfl (fun H locs hP hS => ?_)
  refine lv_if_eq (tgt := 20) hx hb dX12_on_9 (by decide) (fun c_4 => ?_) (fun c_4 => ?_)
  · have h := ifp c_4 h
    refine lv_iconst (v := (-1)) hx hb dX12_on_20 (by decide) ?_
    exact r_iret X hP hS dX12_on_21 h
  · have h := ifn c_4 h
    refine lv_aload_n hx hb dX12_on_12 rfl (lv_at hl 0 rfl) ?_
    refine lv_iload_n hx hb dX12_on_13 rfl (lv_at hl 1 rfl) ?_
    obtain ⟨r_5, m_6, hc_7, h⟩ := bd_some h
    refine c_V (rest := []) X hP hS (tX12_onBy hI  hc_7) (by decide) (L_ref _) rfl wt_7_24 wt_7_26 ws_4_8 wt_1_13 wt_7_27 ⟨rfl, hy_X12_onBy⟩ ⟨rfl, rfl⟩ ⟨Nat.le_of_ble_eq_true rfl, Nat.le_of_ble_eq_true rfl⟩ rfl hl.1 rfl (Nat.le_of_ble_eq_true rfl) dX12_on_14 rfl (fun H locs hP hS => ?_)
    refine lv_goto (tgt := 21) hx hb dX12_on_17 (by decide) ?_
    exact r_iret X hP hS dX12_on_21 h

def fX12_when_64  (x2 : Int32) (m : Mm) : Option (Int32 × Mm) := bd (fX12_laysBack (0 : Int32) m) fun r_12 m_13 => some (x2, m_13)
set_option maxHeartbeats 4000000 in
set_option maxRecDepth 100000 in
theorem tX12_when_64 (hI : InjA rN A)  {r : Int32} {m' : Mm} (X : CX rLay rN D cA A p s m0 args meth c "BenchTowelsModel" cX12_when 5 (some .int)) : ∀ (x2 : Int32) (m : Mm) (H : Heap) (locs : List Loc) (ls : Array Slot), fX12_when_64 x2 m = some (r, m') → va_P D vwCl (wsOf rLay rN cA A m) H → va_S (AW rN A) s.heap H locs → lv_has ls 5 [(0, .ref (A 0)), (2, .int x2)] → W p l e { frames := 5, cells := 0, slots := 0, locals := 120 } s m0 args below meth c H locs 0 0 (ZR below args s rLay rN D cA A (some (.int r)) m') (F0 m0 64 ls []) := by
  have hx := X.1
  have hb := X.2.1
  have hml := X.2.2.1
  have hown := X.2.2.2.1
  have hts := X.2.2.2.2.1
  have hF := X.2.2.2.2.2.2.2.2.1
  intro x2 m H locs ls h hP hS hl
  rewrite [fX12_when_64] at h
  refine lv_aload_n hx hb dX12_when_64 rfl (lv_at hl 0 rfl) ?_
  refine lv_iconst (v := 0) hx hb dX12_when_65 (by decide) ?_
  obtain ⟨r_12, m_13, hc_14, h⟩ := bd_some h
  refine c_V (rest := []) X hP hS (tX12_laysBack hI  hc_14) (by decide) (L_ref _) rfl wt_7_32 wt_7_34 ws_4_10 wt_1_13 wt_7_35 ⟨rfl, hy_X12_laysBack⟩ ⟨rfl, rfl⟩ ⟨Nat.le_of_ble_eq_true rfl, Nat.le_of_ble_eq_true rfl⟩ rfl hl.1 rfl (Nat.le_of_ble_eq_true rfl) dX12_when_66 rfl (fun H locs hP hS => ?_)
  refine lv_iload_n hx hb dX12_when_69 rfl (lv_at hl 1 rfl) ?_
  exact r_iret X hP hS dX12_when_70 h

def fX12_when_18  : Nat → Int32 → Int32 → Mm → Option (Int32 × Mm)
  | 0, _, _, _ => none
  | n + 1, x1, x2, m => bd (fX12_isOver m) fun r_8 m_9 => (if r_8 = 0 then (if (0 : Int32) ≤ x2 then fX12_when_64  x2 m_9 else lt (m_9 1 1) fun x3_16 => bd (fX12_restAct m_9) fun r_18 m_19 => bd (fX12_goesWith r_18 m_19) fun r_21 m_22 => (if (m_22 0 13) = x1 then (fX12_when_18 n x1 x3_16 m_22) else (fX12_when_18 n x1 (-3) m_22))) else fX12_when_64  x2 m_9)
set_option maxHeartbeats 4000000 in
set_option maxRecDepth 100000 in
theorem tX12_when_18 (hI : InjA rN A)  {r : Int32} {m' : Mm} (X : CX rLay rN D cA A p s m0 args meth c "BenchTowelsModel" cX12_when 5 (some .int)) : ∀ (n : Nat) (x1 : Int32) (x2 : Int32) (m : Mm) (H : Heap) (locs : List Loc) (ls : Array Slot), fX12_when_18 n x1 x2 m = some (r, m') → va_P D vwCl (wsOf rLay rN cA A m) H → va_S (AW rN A) s.heap H locs → lv_has ls 5 [(0, .ref (A 0)), (1, .int x1), (2, .int x2)] → W p l e { frames := 5, cells := 0, slots := 0, locals := 120 } s m0 args below meth c H locs 0 0 (ZR below args s rLay rN D cA A (some (.int r)) m') (F0 m0 18 ls []) := by
  have hx := X.1
  have hb := X.2.1
  have hml := X.2.2.1
  have hown := X.2.2.2.1
  have hts := X.2.2.2.2.1
  have hF := X.2.2.2.2.2.2.2.2.1
  intro n
  induction n with
  | zero =>
    intro x1 x2 m H locs ls h hP hS hl
    exact absurd h (by rewrite [fX12_when_18]; exact fun q => by cases q)
  | succ n ih =>
    intro x1 x2 m H locs ls h hP hS hl
    rewrite [fX12_when_18] at h
    refine lv_aload_n hx hb dX12_when_18 rfl (lv_at hl 0 rfl) ?_
    obtain ⟨r_8, m_9, hc_10, h⟩ := bd_some h
    refine c_V (rest := []) X hP hS (tX12_isOver hI  hc_10) (by decide) (L_ref _) rfl wt_6_147 wt_6_149 ws_3_2 wt_1_13 wt_6_150 ⟨rfl, hy_X12_isOver⟩ ⟨rfl, rfl⟩ ⟨Nat.le_of_ble_eq_true rfl, Nat.le_of_ble_eq_true rfl⟩ rfl hl.1 rfl (Nat.le_of_ble_eq_true rfl) dX12_when_19 rfl (fun H locs hP hS => ?_)
    refine lv_if_ne (tgt := 64) hx hb dX12_when_22 (by decide) (fun c_11 => ?_) (fun c_11 => ?_)
    · have h := ifn c_11 h
      exact tX12_when_64 hI    X x2 m_9 _ _ _  h hP hS (lv_sub hl [0, 2] rfl)
    · have h := ifp c_11 h
      refine lv_iload_n hx hb dX12_when_25 rfl (lv_at hl 2 rfl) ?_
      refine lv_if_ge (tgt := 64) hx hb dX12_when_26 (by decide) (fun c_15 => ?_) (fun c_15 => ?_)
      · have h := ifp c_15 h
        exact tX12_when_64 hI    X x2 m_9 _ _ _  h hP hS (lv_sub hl [0, 2] rfl)
      · have h := ifn c_15 h
        refine lv_aload_n hx hb dX12_when_29 rfl (lv_at hl 0 rfl) ?_
        refine r_get kc_12 0 X hP (by decide) (L_ref _) (by decide) rfl wt_5_172 dX12_when_30 ?_
        refine lv_iconst (v := 1) hx hb dX12_when_33 (by decide) ?_
        refine r_iald X hP (by decide) (Lr_1 _) (vpc (by decide)) ixc_1 dX12_when_34 ?_
        obtain ⟨x3_16, ex_17, h⟩ := lt_some h
        refine lv_ren ex_17 ?_
        refine lv_istore_n (lv' := [(3, .int x3_16), (0, .ref (A 0)), (1, .int x1), (2, .int x2)]) hx hb dX12_when_35 rfl hl (by decide) rfl (fun ls hl => ?_)
        refine lv_aload_n hx hb dX12_when_36 rfl (lv_at hl 1 rfl) ?_
        refine lv_aload_n hx hb dX12_when_37 rfl (lv_at hl 1 rfl) ?_
        obtain ⟨r_18, m_19, hc_20, h⟩ := bd_some h
        refine c_V (rest := [.ref (A 0)]) X hP hS (tX12_restAct hI  hc_20) (by decide) (L_ref _) rfl wt_7_2 wt_7_4 ws_4_5 wt_1_13 wt_7_5 ⟨rfl, hy_X12_restAct⟩ ⟨rfl, rfl⟩ ⟨Nat.le_of_ble_eq_true rfl, Nat.le_of_ble_eq_true rfl⟩ rfl hl.1 rfl (Nat.le_of_ble_eq_true rfl) dX12_when_38 rfl (fun H locs hP hS => ?_)
        obtain ⟨r_21, m_22, hc_23, h⟩ := bd_some h
        refine c_V (rest := []) X hP hS (tX12_goesWith hI  hc_23) (by decide) (L_ref _) rfl wt_7_6 wt_7_8 ws_4_6 wt_1_13 wt_7_9 ⟨rfl, hy_X12_goesWith⟩ ⟨rfl, rfl⟩ ⟨Nat.le_of_ble_eq_true rfl, Nat.le_of_ble_eq_true rfl⟩ rfl hl.1 rfl (Nat.le_of_ble_eq_true rfl) dX12_when_41 rfl (fun H locs hP hS => ?_)
        refine lv_istore (lv' := [(4, .int r_21), (3, .int x3_16), (0, .ref (A 0)), (1, .int x1), (2, .int x2)]) hx hb dX12_when_44 hl (by decide) rfl (fun ls hl => ?_)
        refine lv_aload_n hx hb dX12_when_46 rfl (lv_at hl 2 rfl) ?_
        refine r_get kc_12 13 X hP (by decide) (L_ref _) (by decide) rfl wt_5_185 dX12_when_47 ?_
        refine lv_iload_n hx hb dX12_when_50 rfl (lv_at hl 3 rfl) ?_
        refine lv_icmp_ne (tgt := 58) hx hb dX12_when_51 (by decide) (fun c_24 => ?_) (fun c_24 => ?_)
        · have h := ifn c_24 h
          refine lv_bipush (v := (-3)) hx hb dX12_when_58 (by decide) ?_
          refine lv_istore_n (lv' := [(2, .int (-3)), (4, .int r_21), (3, .int x3_16), (0, .ref (A 0)), (1, .int x1)]) hx hb dX12_when_60 rfl hl (by decide) rfl (fun ls hl => ?_)
          refine lv_goto (tgt := 18) hx hb dX12_when_61 (by decide) ?_
          exact ih x1 (-3) m_22 _ _ _  h hP hS (lv_sub hl [3, 4, 0] rfl)
        · have h := ifp c_24 h
          refine lv_iload_n hx hb dX12_when_54 rfl (lv_at hl 1 rfl) ?_
          refine lv_goto (tgt := 60) hx hb dX12_when_55 (by decide) ?_
          refine lv_istore_n (lv' := [(2, .int x3_16), (4, .int r_21), (3, .int x3_16), (0, .ref (A 0)), (1, .int x1)]) hx hb dX12_when_60 rfl hl (by decide) rfl (fun ls hl => ?_)
          refine lv_goto (tgt := 18) hx hb dX12_when_61 (by decide) ?_
          exact ih x1 x3_16 m_22 _ _ _  h hP hS (lv_sub hl [3, 4, 0] rfl)

def fX12_when (a1 : Int32) (m : Mm) : Option (Int32 × Mm) := bd (fX12_isOne a1 m) fun r_1 m_2 => (if r_1 = 0 then some ((-1), m_2) else bd (fX12_laysAside (0 : Int32) m_2) fun r_5 m_6 => (fX12_when_18  FL a1 (-3) m_6))
set_option maxHeartbeats 4000000 in
set_option maxRecDepth 100000 in
theorem tX12_when {l : Launch} {D : va_G} {cA : Nat → ClassId} {A : Nat → Nat} (hI : InjA rN A) {a1 : Int32} {m m' : Mm} {r : Int32} (h : fX12_when a1 m = some (r, m')) : Met0 l yX12_when cX12_when 5 (some .int) { frames := 5, cells := 0, slots := 0, locals := 120 } rLay rN D cA A [.ref (A 0), .int a1] m (some (.int r)) m' := by
  refine met0_of (by decide) (Nat.le_of_ble_eq_true rfl) hI ?_
  intro p e s m0 below meth c ls X hinit hP hS hl
  generalize ([.ref (A 0), .int a1] : List Value).toArray = args at X ⊢
  have hl : lv_has ls 5 [(0, .ref (A 0)), (1, .int a1)] := hl
  have X : CX rLay rN D cA A p s m0 args meth c "BenchTowelsModel" cX12_when 5 (some .int) := X
  have hx := X.1
  have hb := X.2.1
  have hml := X.2.2.1
  have hown := X.2.2.2.1
  have hts := X.2.2.2.2.1
  have hF := X.2.2.2.2.2.2.2.2.1
  rewrite [fX12_when] at h
  refine lv_aload_n hx hb dX12_when_0 rfl (lv_at hl 0 rfl) ?_
  refine lv_iload_n hx hb dX12_when_1 rfl (lv_at hl 1 rfl) ?_
  obtain ⟨r_1, m_2, hc_3, h⟩ := bd_some h
  refine c_V (rest := []) X hP hS (tX12_isOne hI  hc_3) (by decide) (L_ref _) rfl wt_6_67 wt_6_69 ws_2_8 wt_1_13 wt_6_70 ⟨rfl, hy_X12_isOne⟩ ⟨rfl, rfl⟩ ⟨Nat.le_of_ble_eq_true rfl, Nat.le_of_ble_eq_true rfl⟩ rfl hl.1 rfl (Nat.le_of_ble_eq_true rfl) dX12_when_2 rfl (fun H locs hP hS => ?_)
  refine lv_if_ne (tgt := 10) hx hb dX12_when_5 (by decide) (fun c_4 => ?_) (fun c_4 => ?_)
  · have h := ifn c_4 h
    refine lv_aload_n hx hb dX12_when_10 rfl (lv_at hl 0 rfl) ?_
    refine lv_iconst (v := 0) hx hb dX12_when_11 (by decide) ?_
    obtain ⟨r_5, m_6, hc_7, h⟩ := bd_some h
    refine c_V (rest := []) X hP hS (tX12_laysAside hI  hc_7) (by decide) (L_ref _) rfl wt_7_28 wt_7_30 ws_4_9 wt_1_13 wt_7_31 ⟨rfl, hy_X12_laysAside⟩ ⟨rfl, rfl⟩ ⟨Nat.le_of_ble_eq_true rfl, Nat.le_of_ble_eq_true rfl⟩ rfl hl.1 rfl (Nat.le_of_ble_eq_true rfl) dX12_when_12 rfl (fun H locs hP hS => ?_)
    refine lv_bipush (v := (-3)) hx hb dX12_when_15 (by decide) ?_
    refine lv_istore_n (lv' := [(2, .int (-3)), (0, .ref (A 0)), (1, .int a1)]) hx hb dX12_when_17 rfl hl (by decide) rfl (fun ls hl => ?_)
    exact tX12_when_18 hI    X FL a1 (-3) m_6 _ _ _  h hP hS (lv_sub hl [1, 2, 0] rfl)
  · have h := ifp c_4 h
    refine lv_iconst (v := (-1)) hx hb dX12_when_8 (by decide) ?_
    exact r_iret X hP hS dX12_when_9 h

def fX12_valueFor_66 (K28 : Int32 → Int32 → Int32 → Int32 → Int32 → Int32 → Mm → Option (Int32 × Mm)) (x4 : Int32) (x5 : Int32) (x6 : Int32) (x8 : Int32) (x9 : Int32) (x10 : Int32) (s0 : Int32) (m : Mm) : Option (Int32 × Mm) := (if x10 ≤ x8 then lt ((x9 : Int32) + 1) fun x9_18 => (K28 x4 x5 x6 s0 x8 x9_18 m) else lt ((x9 : Int32) + 1) fun x9_20 => (K28 x4 x5 x6 s0 x10 x9_20 m))
set_option maxHeartbeats 4000000 in
set_option maxRecDepth 100000 in
theorem tX12_valueFor_66 (hI : InjA rN A)  {r : Int32} {m' : Mm} {K28 : Int32 → Int32 → Int32 → Int32 → Int32 → Int32 → Mm → Option (Int32 × Mm)} (hK28 : ∀ (x4 : Int32) (x5 : Int32) (x6 : Int32) (x7 : Int32) (x8 : Int32) (x9 : Int32) (m : Mm) (H : Heap) (locs : List Loc) (ls : Array Slot), K28 x4 x5 x6 x7 x8 x9 m = some (r, m') → va_P D vwCl (wsOf rLay rN cA A m) H → va_S (AW rN A) s.heap H locs → lv_has ls 11 [(0, .ref (A 0)), (4, .int x4), (5, .int x5), (6, .int x6), (7, .int x7), (8, .int x8), (9, .int x9)] → W p l e { frames := 6, cells := 0, slots := 0, locals := 143 } s m0 args below meth c H locs 0 0 (ZR below args s rLay rN D cA A (some (.int r)) m') (F0 m0 28 ls [])) (X : CX rLay rN D cA A p s m0 args meth c "BenchTowelsModel" cX12_valueFor 11 (some .int)) : ∀ (x4 : Int32) (x5 : Int32) (x6 : Int32) (x8 : Int32) (x9 : Int32) (x10 : Int32) (s0 : Int32) (m : Mm) (H : Heap) (locs : List Loc) (ls : Array Slot), fX12_valueFor_66 K28 x4 x5 x6 x8 x9 x10 s0 m = some (r, m') → va_P D vwCl (wsOf rLay rN cA A m) H → va_S (AW rN A) s.heap H locs → lv_has ls 11 [(0, .ref (A 0)), (4, .int x4), (5, .int x5), (6, .int x6), (8, .int x8), (9, .int x9), (10, .int x10)] → W p l e { frames := 6, cells := 0, slots := 0, locals := 143 } s m0 args below meth c H locs 0 0 (ZR below args s rLay rN D cA A (some (.int r)) m') (F0 m0 66 ls [.int s0]) := by
  have hx := X.1
  have hb := X.2.1
  have hml := X.2.2.1
  have hown := X.2.2.2.1
  have hts := X.2.2.2.2.1
  have hF := X.2.2.2.2.2.2.2.2.1
  intro x4 x5 x6 x8 x9 x10 s0 m H locs ls h hP hS hl
  rewrite [fX12_valueFor_66] at h
  refine lv_istore (lv' := [(7, .int s0), (0, .ref (A 0)), (4, .int x4), (5, .int x5), (6, .int x6), (8, .int x8), (9, .int x9), (10, .int x10)]) hx hb dX12_valueFor_66 hl (by decide) rfl (fun ls hl => ?_)
  refine lv_iload hx hb dX12_valueFor_68 (lv_at hl 7 rfl) ?_
  refine lv_iload hx hb dX12_valueFor_70 (lv_at hl 5 rfl) ?_
  refine lv_icmp_le (tgt := 80) hx hb dX12_valueFor_72 (by decide) (fun c_17 => ?_) (fun c_17 => ?_)
  · have h := ifp c_17 h
    refine lv_iload hx hb dX12_valueFor_80 (lv_at hl 5 rfl) ?_
    refine lv_istore (lv' := [(8, .int x8), (7, .int s0), (0, .ref (A 0)), (4, .int x4), (5, .int x5), (6, .int x6), (9, .int x9), (10, .int x10)]) hx hb dX12_valueFor_82 hl (by decide) rfl (fun ls hl => ?_)
    obtain ⟨x9_18, ex_19, h⟩ := lt_some h
    refine lv_iinc (v := x9_18) (lv' := [(9, .int x9_18), (8, .int x8), (7, .int s0), (0, .ref (A 0)), (4, .int x4), (5, .int x5), (6, .int x6), (10, .int x10)]) hx hb dX12_valueFor_84 hl (k := 6) rfl (by rw [ex_19]; rfl) (by decide) rfl (fun ls hl => ?_)
    refine lv_goto (tgt := 28) hx hb dX12_valueFor_87 (by decide) ?_
    exact hK28 x4 x5 x6 s0 x8 x9_18 m _ _ _ h hP hS (lv_sub hl [3, 4, 5, 6, 2, 1, 0] rfl)
  · have h := ifn c_17 h
    refine lv_iload hx hb dX12_valueFor_75 (lv_at hl 7 rfl) ?_
    refine lv_goto (tgt := 82) hx hb dX12_valueFor_77 (by decide) ?_
    refine lv_istore (lv' := [(8, .int x10), (7, .int s0), (0, .ref (A 0)), (4, .int x4), (5, .int x5), (6, .int x6), (9, .int x9), (10, .int x10)]) hx hb dX12_valueFor_82 hl (by decide) rfl (fun ls hl => ?_)
    obtain ⟨x9_20, ex_21, h⟩ := lt_some h
    refine lv_iinc (v := x9_20) (lv' := [(9, .int x9_20), (8, .int x10), (7, .int s0), (0, .ref (A 0)), (4, .int x4), (5, .int x5), (6, .int x6), (10, .int x10)]) hx hb dX12_valueFor_84 hl (k := 6) rfl (by rw [ex_21]; rfl) (by decide) rfl (fun ls hl => ?_)
    refine lv_goto (tgt := 28) hx hb dX12_valueFor_87 (by decide) ?_
    exact hK28 x4 x5 x6 s0 x10 x9_20 m _ _ _ h hP hS (lv_sub hl [3, 4, 5, 6, 2, 1, 0] rfl)

def fX12_valueFor_28  : Nat → Int32 → Int32 → Int32 → Int32 → Int32 → Int32 → Mm → Option (Int32 × Mm)
  | 0, _, _, _, _, _, _, _ => none
  | n + 1, x4, x5, x6, x7, x8, x9, m => (if (x4 : Int32) < x9 then gx x5 553 (lt (up m 1 (ix x5) x6) fun m_8 => some (x7, m_8)) else gx x5 553 (lt (up m 1 (ix x5) x9) fun m_11 => bd (fX12_onBy (16 : Int32) m_11) fun r_13 m_14 => (if r_13 ≤ x8 then (fX12_valueFor_66 (fun x4 x5 x6 x7 x8 x9 m => fX12_valueFor_28 n x4 x5 x6 x7 x8 x9 m) x4 x5 x6 x8 x9 r_13 x7 m_14) else (fX12_valueFor_66 (fun x4 x5 x6 x7 x8 x9 m => fX12_valueFor_28 n x4 x5 x6 x7 x8 x9 m) x4 x5 x6 x8 x9 r_13 x9 m_14))))
set_option maxHeartbeats 4000000 in
set_option maxRecDepth 100000 in
theorem tX12_valueFor_28 (hI : InjA rN A)  {r : Int32} {m' : Mm} (X : CX rLay rN D cA A p s m0 args meth c "BenchTowelsModel" cX12_valueFor 11 (some .int)) : ∀ (n : Nat) (x4 : Int32) (x5 : Int32) (x6 : Int32) (x7 : Int32) (x8 : Int32) (x9 : Int32) (m : Mm) (H : Heap) (locs : List Loc) (ls : Array Slot), fX12_valueFor_28 n x4 x5 x6 x7 x8 x9 m = some (r, m') → va_P D vwCl (wsOf rLay rN cA A m) H → va_S (AW rN A) s.heap H locs → lv_has ls 11 [(0, .ref (A 0)), (4, .int x4), (5, .int x5), (6, .int x6), (7, .int x7), (8, .int x8), (9, .int x9)] → W p l e { frames := 6, cells := 0, slots := 0, locals := 143 } s m0 args below meth c H locs 0 0 (ZR below args s rLay rN D cA A (some (.int r)) m') (F0 m0 28 ls []) := by
  have hx := X.1
  have hb := X.2.1
  have hml := X.2.2.1
  have hown := X.2.2.2.1
  have hts := X.2.2.2.2.1
  have hF := X.2.2.2.2.2.2.2.2.1
  intro n
  induction n with
  | zero =>
    intro x4 x5 x6 x7 x8 x9 m H locs ls h hP hS hl
    exact absurd h (by rewrite [fX12_valueFor_28]; exact fun q => by cases q)
  | succ n ih =>
    intro x4 x5 x6 x7 x8 x9 m H locs ls h hP hS hl
    rewrite [fX12_valueFor_28] at h
    refine lv_iload hx hb dX12_valueFor_28 (lv_at hl 6 rfl) ?_
    refine lv_iload hx hb dX12_valueFor_30 (lv_at hl 1 rfl) ?_
    refine lv_icmp_gt (tgt := 90) hx hb dX12_valueFor_32 (by decide) (fun c_6 => ?_) (fun c_6 => ?_)
    · have h := ifp c_6 h
      refine lv_aload_n hx hb dX12_valueFor_90 rfl (lv_at hl 0 rfl) ?_
      refine r_get kc_12 0 X hP (by decide) (L_ref _) (by decide) rfl wt_5_172 dX12_valueFor_91 ?_
      refine lv_iload hx hb dX12_valueFor_94 (lv_at hl 2 rfl) ?_
      refine lv_iload hx hb dX12_valueFor_96 (lv_at hl 3 rfl) ?_
      obtain ⟨hin_7, h⟩ := gx_some h
      obtain ⟨m_8, em_9, h⟩ := lt_some h
      refine r_iast X hP hS (by decide) Lr_1 hin_7 rfl dX12_valueFor_98 em_9 (fun H locs hP hS => ?_)
      refine lv_iload hx hb dX12_valueFor_99 (lv_at hl 4 rfl) ?_
      exact r_iret X hP hS dX12_valueFor_101 h
    · have h := ifn c_6 h
      refine lv_aload_n hx hb dX12_valueFor_35 rfl (lv_at hl 0 rfl) ?_
      refine r_get kc_12 0 X hP (by decide) (L_ref _) (by decide) rfl wt_5_172 dX12_valueFor_36 ?_
      refine lv_iload hx hb dX12_valueFor_39 (lv_at hl 2 rfl) ?_
      refine lv_iload hx hb dX12_valueFor_41 (lv_at hl 6 rfl) ?_
      obtain ⟨hin_10, h⟩ := gx_some h
      obtain ⟨m_11, em_12, h⟩ := lt_some h
      refine r_iast X hP hS (by decide) Lr_1 hin_10 rfl dX12_valueFor_43 em_12 (fun H locs hP hS => ?_)
      refine lv_aload_n hx hb dX12_valueFor_44 rfl (lv_at hl 0 rfl) ?_
      refine lv_bipush (v := 16) hx hb dX12_valueFor_45 (by decide) ?_
      obtain ⟨r_13, m_14, hc_15, h⟩ := bd_some h
      refine c_V (rest := []) X hP hS (tX12_onBy hI  hc_15) (by decide) (L_ref _) rfl wt_7_24 wt_7_26 ws_4_8 wt_1_13 wt_7_27 ⟨rfl, hy_X12_onBy⟩ ⟨rfl, rfl⟩ ⟨Nat.le_of_ble_eq_true rfl, Nat.le_of_ble_eq_true rfl⟩ rfl hl.1 rfl (Nat.le_of_ble_eq_true rfl) dX12_valueFor_47 rfl (fun H locs hP hS => ?_)
      refine lv_istore (lv' := [(10, .int r_13), (0, .ref (A 0)), (4, .int x4), (5, .int x5), (6, .int x6), (7, .int x7), (8, .int x8), (9, .int x9)]) hx hb dX12_valueFor_50 hl (by decide) rfl (fun ls hl => ?_)
      refine lv_iload hx hb dX12_valueFor_52 (lv_at hl 0 rfl) ?_
      refine lv_iload hx hb dX12_valueFor_54 (lv_at hl 6 rfl) ?_
      refine lv_icmp_le (tgt := 64) hx hb dX12_valueFor_56 (by decide) (fun c_16 => ?_) (fun c_16 => ?_)
      · have h := ifp c_16 h
        refine lv_iload hx hb dX12_valueFor_64 (lv_at hl 5 rfl) ?_
        exact tX12_valueFor_66 hI   (fun x4 x5 x6 x7 x8 x9 m H locs ls h hP hS hl => ih x4 x5 x6 x7 x8 x9 m H locs ls  h hP hS hl) X x4 x5 x6 x8 x9 r_13 x7 m_14 _ _ _  h hP hS (lv_sub hl [1, 2, 3, 4, 6, 7, 0] rfl)
      · have h := ifn c_16 h
        refine lv_iload hx hb dX12_valueFor_59 (lv_at hl 7 rfl) ?_
        refine lv_goto (tgt := 66) hx hb dX12_valueFor_61 (by decide) ?_
        exact tX12_valueFor_66 hI   (fun x4 x5 x6 x7 x8 x9 m H locs ls h hP hS hl => ih x4 x5 x6 x7 x8 x9 m H locs ls  h hP hS hl) X x4 x5 x6 x8 x9 r_13 x9 m_14 _ _ _  h hP hS (lv_sub hl [1, 2, 3, 4, 6, 7, 0] rfl)

def fX12_valueFor (a1 : Int32) (a2 : Int32) (a3 : Int32) (a4 : Int32) (m : Mm) : Option (Int32 × Mm) := lt (((8 : Int32) + ((5 : Int32) * a1)) + a2) fun x5_1 => gx x5_1 553 (lt (m 1 (ix x5_1)) fun x6_4 => (fX12_valueFor_28  FL a4 x5_1 x6_4 a3 (-1) a3 m))
set_option maxHeartbeats 4000000 in
set_option maxRecDepth 100000 in
theorem tX12_valueFor {l : Launch} {D : va_G} {cA : Nat → ClassId} {A : Nat → Nat} (hI : InjA rN A) {a1 : Int32} {a2 : Int32} {a3 : Int32} {a4 : Int32} {m m' : Mm} {r : Int32} (h : fX12_valueFor a1 a2 a3 a4 m = some (r, m')) : Met0 l yX12_valueFor cX12_valueFor 11 (some .int) { frames := 6, cells := 0, slots := 0, locals := 143 } rLay rN D cA A [.ref (A 0), .int a1, .int a2, .int a3, .int a4] m (some (.int r)) m' := by
  refine met0_of (by decide) (Nat.le_of_ble_eq_true rfl) hI ?_
  intro p e s m0 below meth c ls X hinit hP hS hl
  generalize ([.ref (A 0), .int a1, .int a2, .int a3, .int a4] : List Value).toArray = args at X ⊢
  have hl : lv_has ls 11 [(0, .ref (A 0)), (1, .int a1), (2, .int a2), (3, .int a3), (4, .int a4)] := hl
  have X : CX rLay rN D cA A p s m0 args meth c "BenchTowelsModel" cX12_valueFor 11 (some .int) := X
  have hx := X.1
  have hb := X.2.1
  have hml := X.2.2.1
  have hown := X.2.2.2.1
  have hts := X.2.2.2.2.1
  have hF := X.2.2.2.2.2.2.2.2.1
  rewrite [fX12_valueFor] at h
  refine lv_bipush (v := 8) hx hb dX12_valueFor_0 (by decide) ?_
  refine lv_iconst (v := 5) hx hb dX12_valueFor_2 (by decide) ?_
  refine lv_iload_n hx hb dX12_valueFor_3 rfl (lv_at hl 1 rfl) ?_
  refine lv_imul hx hb dX12_valueFor_4 ?_
  refine lv_iadd hx hb dX12_valueFor_5 ?_
  refine lv_iload_n hx hb dX12_valueFor_6 rfl (lv_at hl 2 rfl) ?_
  refine lv_iadd hx hb dX12_valueFor_7 ?_
  obtain ⟨x5_1, ex_2, h⟩ := lt_some h
  refine lv_ren ex_2 ?_
  refine lv_istore (lv' := [(5, .int x5_1), (0, .ref (A 0)), (1, .int a1), (2, .int a2), (3, .int a3), (4, .int a4)]) hx hb dX12_valueFor_8 hl (by decide) rfl (fun ls hl => ?_)
  refine lv_aload_n hx hb dX12_valueFor_10 rfl (lv_at hl 1 rfl) ?_
  refine r_get kc_12 0 X hP (by decide) (L_ref _) (by decide) rfl wt_5_172 dX12_valueFor_11 ?_
  refine lv_iload hx hb dX12_valueFor_14 (lv_at hl 0 rfl) ?_
  obtain ⟨hin_3, h⟩ := gx_some h
  refine r_iald X hP (by decide) (Lr_1 _) hin_3 rfl dX12_valueFor_16 ?_
  obtain ⟨x6_4, ex_5, h⟩ := lt_some h
  refine lv_ren ex_5 ?_
  refine lv_istore (lv' := [(6, .int x6_4), (5, .int x5_1), (0, .ref (A 0)), (1, .int a1), (2, .int a2), (3, .int a3), (4, .int a4)]) hx hb dX12_valueFor_17 hl (by decide) rfl (fun ls hl => ?_)
  refine lv_iload_n hx hb dX12_valueFor_19 rfl (lv_at hl 5 rfl) ?_
  refine lv_istore (lv' := [(7, .int a3), (6, .int x6_4), (5, .int x5_1), (0, .ref (A 0)), (1, .int a1), (2, .int a2), (3, .int a3), (4, .int a4)]) hx hb dX12_valueFor_20 hl (by decide) rfl (fun ls hl => ?_)
  refine lv_iconst (v := (-1)) hx hb dX12_valueFor_22 (by decide) ?_
  refine lv_istore (lv' := [(8, .int (-1)), (7, .int a3), (6, .int x6_4), (5, .int x5_1), (0, .ref (A 0)), (1, .int a1), (2, .int a2), (3, .int a3), (4, .int a4)]) hx hb dX12_valueFor_23 hl (by decide) rfl (fun ls hl => ?_)
  refine lv_iload_n hx hb dX12_valueFor_25 rfl (lv_at hl 7 rfl) ?_
  refine lv_istore (lv' := [(9, .int a3), (8, .int (-1)), (7, .int a3), (6, .int x6_4), (5, .int x5_1), (0, .ref (A 0)), (1, .int a1), (2, .int a2), (3, .int a3), (4, .int a4)]) hx hb dX12_valueFor_26 hl (by decide) rfl (fun ls hl => ?_)
  exact tX12_valueFor_28 hI    X FL a4 x5_1 x6_4 a3 (-1) a3 m _ _ _  h hP hS (lv_sub hl [5, 9, 4, 3, 2, 1, 0] rfl)

def fX12_weightFor (a1 : Int32) (m : Mm) : Option (Int32 × Mm) := bd (fX12_isOne a1 m) fun r_1 m_2 => (if r_1 = 0 then some ((-1), m_2) else bd (fX12_valueFor a1 (2 : Int32) (1 : Int32) (9 : Int32) m_2) fun r_5 m_6 => some (r_5, m_6))
set_option maxHeartbeats 4000000 in
set_option maxRecDepth 100000 in
theorem tX12_weightFor {l : Launch} {D : va_G} {cA : Nat → ClassId} {A : Nat → Nat} (hI : InjA rN A) {a1 : Int32} {m m' : Mm} {r : Int32} (h : fX12_weightFor a1 m = some (r, m')) : Met0 l yX12_weightFor cX12_weightFor 2 (some .int) { frames := 7, cells := 0, slots := 0, locals := 173 } rLay rN D cA A [.ref (A 0), .int a1] m (some (.int r)) m' := by
  refine met0_of (by decide) (Nat.le_of_ble_eq_true rfl) hI ?_
  intro p e s m0 below meth c ls X hinit hP hS hl
  generalize ([.ref (A 0), .int a1] : List Value).toArray = args at X ⊢
  have hl : lv_has ls 2 [(0, .ref (A 0)), (1, .int a1)] := hl
  have X : CX rLay rN D cA A p s m0 args meth c "BenchTowelsModel" cX12_weightFor 2 (some .int) := X
  have hx := X.1
  have hb := X.2.1
  have hml := X.2.2.1
  have hown := X.2.2.2.1
  have hts := X.2.2.2.2.1
  have hF := X.2.2.2.2.2.2.2.2.1
  rewrite [fX12_weightFor] at h
  refine lv_aload_n hx hb dX12_weightFor_0 rfl (lv_at hl 0 rfl) ?_
  refine lv_iload_n hx hb dX12_weightFor_1 rfl (lv_at hl 1 rfl) ?_
  obtain ⟨r_1, m_2, hc_3, h⟩ := bd_some h
  refine c_V (rest := []) X hP hS (tX12_isOne hI  hc_3) (by decide) (L_ref _) rfl wt_6_67 wt_6_69 ws_2_8 wt_1_13 wt_6_70 ⟨rfl, hy_X12_isOne⟩ ⟨rfl, rfl⟩ ⟨Nat.le_of_ble_eq_true rfl, Nat.le_of_ble_eq_true rfl⟩ rfl hl.1 rfl (Nat.le_of_ble_eq_true rfl) dX12_weightFor_2 rfl (fun H locs hP hS => ?_)
  refine lv_if_eq (tgt := 20) hx hb dX12_weightFor_5 (by decide) (fun c_4 => ?_) (fun c_4 => ?_)
  · have h := ifp c_4 h
    refine lv_iconst (v := (-1)) hx hb dX12_weightFor_20 (by decide) ?_
    exact r_iret X hP hS dX12_weightFor_21 h
  · have h := ifn c_4 h
    refine lv_aload_n hx hb dX12_weightFor_8 rfl (lv_at hl 0 rfl) ?_
    refine lv_iload_n hx hb dX12_weightFor_9 rfl (lv_at hl 1 rfl) ?_
    refine lv_iconst (v := 2) hx hb dX12_weightFor_10 (by decide) ?_
    refine lv_iconst (v := 1) hx hb dX12_weightFor_11 (by decide) ?_
    refine lv_bipush (v := 9) hx hb dX12_weightFor_12 (by decide) ?_
    obtain ⟨r_5, m_6, hc_7, h⟩ := bd_some h
    refine c_V (rest := []) X hP hS (tX12_valueFor hI  hc_7) (by decide) (L_ref _) rfl wt_7_44 wt_7_46 ws_4_11 wt_1_13 wt_7_47 ⟨rfl, hy_X12_valueFor⟩ ⟨rfl, rfl⟩ ⟨Nat.le_of_ble_eq_true rfl, Nat.le_of_ble_eq_true rfl⟩ rfl hl.1 rfl (Nat.le_of_ble_eq_true rfl) dX12_weightFor_14 rfl (fun H locs hP hS => ?_)
    refine lv_goto (tgt := 21) hx hb dX12_weightFor_17 (by decide) ?_
    exact r_iret X hP hS dX12_weightFor_21 h

def fX12_machineFor (a1 : Int32) (m : Mm) : Option (Int32 × Mm) := bd (fX12_isOne a1 m) fun r_1 m_2 => (if r_1 = 0 then some ((-1), m_2) else bd (fX12_valueFor a1 (1 : Int32) (0 : Int32) (5 : Int32) m_2) fun r_5 m_6 => some (r_5, m_6))
set_option maxHeartbeats 4000000 in
set_option maxRecDepth 100000 in
theorem tX12_machineFor {l : Launch} {D : va_G} {cA : Nat → ClassId} {A : Nat → Nat} (hI : InjA rN A) {a1 : Int32} {m m' : Mm} {r : Int32} (h : fX12_machineFor a1 m = some (r, m')) : Met0 l yX12_machineFor cX12_machineFor 2 (some .int) { frames := 7, cells := 0, slots := 0, locals := 173 } rLay rN D cA A [.ref (A 0), .int a1] m (some (.int r)) m' := by
  refine met0_of (by decide) (Nat.le_of_ble_eq_true rfl) hI ?_
  intro p e s m0 below meth c ls X hinit hP hS hl
  generalize ([.ref (A 0), .int a1] : List Value).toArray = args at X ⊢
  have hl : lv_has ls 2 [(0, .ref (A 0)), (1, .int a1)] := hl
  have X : CX rLay rN D cA A p s m0 args meth c "BenchTowelsModel" cX12_machineFor 2 (some .int) := X
  have hx := X.1
  have hb := X.2.1
  have hml := X.2.2.1
  have hown := X.2.2.2.1
  have hts := X.2.2.2.2.1
  have hF := X.2.2.2.2.2.2.2.2.1
  rewrite [fX12_machineFor] at h
  refine lv_aload_n hx hb dX12_machineFor_0 rfl (lv_at hl 0 rfl) ?_
  refine lv_iload_n hx hb dX12_machineFor_1 rfl (lv_at hl 1 rfl) ?_
  obtain ⟨r_1, m_2, hc_3, h⟩ := bd_some h
  refine c_V (rest := []) X hP hS (tX12_isOne hI  hc_3) (by decide) (L_ref _) rfl wt_6_67 wt_6_69 ws_2_8 wt_1_13 wt_6_70 ⟨rfl, hy_X12_isOne⟩ ⟨rfl, rfl⟩ ⟨Nat.le_of_ble_eq_true rfl, Nat.le_of_ble_eq_true rfl⟩ rfl hl.1 rfl (Nat.le_of_ble_eq_true rfl) dX12_machineFor_2 rfl (fun H locs hP hS => ?_)
  refine lv_if_eq (tgt := 19) hx hb dX12_machineFor_5 (by decide) (fun c_4 => ?_) (fun c_4 => ?_)
  · have h := ifp c_4 h
    refine lv_iconst (v := (-1)) hx hb dX12_machineFor_19 (by decide) ?_
    exact r_iret X hP hS dX12_machineFor_20 h
  · have h := ifn c_4 h
    refine lv_aload_n hx hb dX12_machineFor_8 rfl (lv_at hl 0 rfl) ?_
    refine lv_iload_n hx hb dX12_machineFor_9 rfl (lv_at hl 1 rfl) ?_
    refine lv_iconst (v := 1) hx hb dX12_machineFor_10 (by decide) ?_
    refine lv_iconst (v := 0) hx hb dX12_machineFor_11 (by decide) ?_
    refine lv_iconst (v := 5) hx hb dX12_machineFor_12 (by decide) ?_
    obtain ⟨r_5, m_6, hc_7, h⟩ := bd_some h
    refine c_V (rest := []) X hP hS (tX12_valueFor hI  hc_7) (by decide) (L_ref _) rfl wt_7_44 wt_7_46 ws_4_11 wt_1_13 wt_7_47 ⟨rfl, hy_X12_valueFor⟩ ⟨rfl, rfl⟩ ⟨Nat.le_of_ble_eq_true rfl, Nat.le_of_ble_eq_true rfl⟩ rfl hl.1 rfl (Nat.le_of_ble_eq_true rfl) dX12_machineFor_13 rfl (fun H locs hP hS => ?_)
    refine lv_goto (tgt := 20) hx hb dX12_machineFor_16 (by decide) ?_
    exact r_iret X hP hS dX12_machineFor_20 h

def fX12_isSet (a1 : Int32) (m : Mm) : Option (Int32 × Mm) := bd (fX12_isIn (Int32.toInt64 a1) (0 : Int64) (Int32.toInt64 (((1 : Int32) <<< ((m 1 0) &&& 31)) - 1)) m) fun r_1 m_2 => gb r_1 (some (r_1, m_2))
set_option maxHeartbeats 4000000 in
set_option maxRecDepth 100000 in
theorem tX12_isSet {l : Launch} {D : va_G} {cA : Nat → ClassId} {A : Nat → Nat} (hI : InjA rN A) {a1 : Int32} {m m' : Mm} {r : Int32} (h : fX12_isSet a1 m = some (r, m')) : Met0 l yX12_isSet cX12_isSet 2 (some .boolean) { frames := 1, cells := 0, slots := 0, locals := 25 } rLay rN D cA A [.ref (A 0), .int a1] m (some (.int r)) m' := by
  refine met0_of (by decide) (Nat.le_of_ble_eq_true rfl) hI ?_
  intro p e s m0 below meth c ls X hinit hP hS hl
  generalize ([.ref (A 0), .int a1] : List Value).toArray = args at X ⊢
  have hl : lv_has ls 2 [(0, .ref (A 0)), (1, .int a1)] := hl
  have X : CX rLay rN D cA A p s m0 args meth c "BenchTowelsModel" cX12_isSet 2 (some .boolean) := X
  have hx := X.1
  have hb := X.2.1
  have hml := X.2.2.1
  have hown := X.2.2.2.1
  have hts := X.2.2.2.2.1
  have hF := X.2.2.2.2.2.2.2.2.1
  rewrite [fX12_isSet] at h
  refine lv_iload_n hx hb dX12_isSet_0 rfl (lv_at hl 1 rfl) ?_
  refine lv_i2l hx hb dX12_isSet_1 rfl ?_
  refine lv_lconst (v := 0) hx hb dX12_isSet_2 (by decide) ?_
  refine lv_iconst (v := 1) hx hb dX12_isSet_3 (by decide) ?_
  refine lv_aload_n hx hb dX12_isSet_4 rfl (lv_at hl 0 rfl) ?_
  refine r_get kc_12 0 X hP (by decide) (L_ref _) (by decide) rfl wt_5_172 dX12_isSet_5 ?_
  refine lv_iconst (v := 0) hx hb dX12_isSet_8 (by decide) ?_
  refine r_iald X hP (by decide) (Lr_1 _) (vpc (by decide)) ixc_0 dX12_isSet_9 ?_
  refine lv_ishl hx hb dX12_isSet_10 ?_
  refine lv_iconst (v := 1) hx hb dX12_isSet_11 (by decide) ?_
  refine lv_isub hx hb dX12_isSet_12 ?_
  refine lv_i2l hx hb dX12_isSet_13 rfl ?_
  obtain ⟨r_1, m_2, hc_3, h⟩ := bd_some h
  refine c_S (rest := []) X hP hS (tX12_isIn hI  hc_3) wt_6_55 wt_6_56 wt_1_13 wt_6_57 hy_X12_isIn ⟨rfl, rfl⟩ ⟨Nat.le_of_ble_eq_true rfl, Nat.le_of_ble_eq_true rfl⟩ rfl hl.1 rfl (Nat.le_of_ble_eq_true rfl) dX12_isSet_14 rfl (fun H locs hP hS => ?_)
  obtain ⟨hz_4, h⟩ := gb_some h
  exact r_zret X hz_4 hP hS dX12_isSet_17 h

end
