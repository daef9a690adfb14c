-- the landed class's methods walked, by program (wip/whole/gen)
section
variable {p : Program} {l : Launch} {e : Env} {s : State} {m0 : MethodId} {args : Array Value} {below : List Frame} {meth : Method} {c : Code} {D : va_G} {cA : Nat → ClassId} {A : Nat → Nat}
def fX8_readRule_58 (i : Nat) (x1 : Int32) (x2 : Int32) (m : Mm) : Option (Int32 × Mm) := gx (m (rp i 0) 12) 201 (lt (m (rp i 8) (ix (m (rp i 0) 12))) fun x3_14 => (if x3_14 < 6 then some (0, m) else (if x3_14 ≤ 8 then bd (fX8_next i m) fun r_18 m_19 => gx (m_19 (rp i 0) 12) 201 ((if (m_19 (rp i 8) (ix (m_19 (rp i 0) 12))) = 315 then bd (fX8_next i m_19) fun r_23 m_24 => gx (m_24 (rp i 0) 0) 8 (lt (up m_24 (rp i 1) (ix (m_24 (rp i 0) 0)) x1) fun m_27 => gx (m_27 (rp i 0) 0) 8 (lt (up m_27 (rp i 2) (ix (m_27 (rp i 0) 0)) (x3_14 - 6)) fun m_30 => gx (m_30 (rp i 0) 0) 8 (lt (up m_30 (rp i 3) (ix (m_30 (rp i 0) 0)) x2) fun m_33 => gx (m_33 (rp i 0) 0) 8 (lt (up m_33 (rp i 4) (ix (m_33 (rp i 0) 0)) (m_33 (rp i 0) 8)) fun m_36 => lt (up m_36 (rp i 0) 0 ((m_36 (rp i 0) 0) + 1)) fun m_38 => some (1, m_38))))) else some (0, m_19))) else some (0, m))))
set_option maxHeartbeats 4000000 in
set_option maxRecDepth 100000 in
theorem tX8_readRule_58 (hI : InjA cN A) {i : Nat} (hi : i < 3) {r : Int32} {m' : Mm} (X : CX cLay cN D cA A p s m0 args meth c "BenchTowels$Rules" cX8_readRule 4 (some .boolean)) : ∀ (x1 : Int32) (x2 : Int32) (m : Mm) (H : Heap) (locs : List Loc) (ls : Array Slot), fX8_readRule_58 i x1 x2 m = some (r, m') → va_P D vwCl (wsOf cLay cN cA A m) H → va_S (AW cN A) s.heap H locs → lv_has ls 4 [(0, .ref (A (rp i 0))), (1, .int x1), (2, .int x2)] → W p l e { frames := 25, cells := 0, slots := 0, locals := 568 } s m0 args below meth c H locs 0 0 (ZR below args s cLay cN D cA A (some (.int r)) m') (F0 m0 58 ls []) := by
  have hx := X.1
  have hb := X.2.1
  have hml := X.2.2.1
  have hown := X.2.2.2.1
  have hts := X.2.2.2.2.1
  have hF := X.2.2.2.2.2.2.2.2.1
  intro x1 x2 m H locs ls h hP hS hl
  rewrite [fX8_readRule_58] at h
  refine lv_aload_n hx hb dX8_readRule_58 rfl (lv_at hl 0 rfl) ?_
  refine r_get kc_8 10 X hP (lt_r hi (by decide)) (L_rules hi _) (by decide) rfl wt_1_46 dX8_readRule_59 ?_
  refine lv_aload_n hx hb dX8_readRule_62 rfl (lv_at hl 0 rfl) ?_
  refine r_get kc_8 12 X hP (lt_r hi (by decide)) (L_rules hi _) (by decide) rfl wt_1_48 dX8_readRule_63 ?_
  obtain ⟨hin_13, h⟩ := gx_some h
  refine r_iald X hP (lt_r hi (by decide)) ((La_r_8 hi) _) hin_13 rfl dX8_readRule_66 ?_
  obtain ⟨x3_14, ex_15, h⟩ := lt_some h
  refine lv_ren ex_15 ?_
  refine lv_istore_n (lv' := [(3, .int x3_14), (0, .ref (A (rp i 0))), (1, .int x1), (2, .int x2)]) hx hb dX8_readRule_67 rfl hl (by decide) rfl (fun ls hl => ?_)
  refine lv_iload_n hx hb dX8_readRule_68 rfl (lv_at hl 0 rfl) ?_
  refine lv_bipush (v := 6) hx hb dX8_readRule_69 (by decide) ?_
  refine lv_icmp_lt (tgt := 80) hx hb dX8_readRule_71 (by decide) (fun c_16 => ?_) (fun c_16 => ?_)
  · have h := ifp c_16 h
    refine lv_iconst (v := 0) hx hb dX8_readRule_80 (by decide) ?_
    exact r_zret X (Or.inl rfl) hP hS dX8_readRule_81 h
  · have h := ifn c_16 h
    refine lv_iload_n hx hb dX8_readRule_74 rfl (lv_at hl 0 rfl) ?_
    refine lv_bipush (v := 8) hx hb dX8_readRule_75 (by decide) ?_
    refine lv_icmp_le (tgt := 82) hx hb dX8_readRule_77 (by decide) (fun c_17 => ?_) (fun c_17 => ?_)
    · have h := ifp c_17 h
      refine lv_aload_n hx hb dX8_readRule_82 rfl (lv_at hl 1 rfl) ?_
      obtain ⟨r_18, m_19, hc_20, h⟩ := bd_some h
      refine c_V (rest := []) X hP hS (tX8_next hI hi hc_20) (lt_r hi (by decide)) (L_rules hi _) rfl wt_3_168 wt_3_170 ws_1_9 wt_1_2 wt_3_171 ⟨rfl, hy_X8_next⟩ ⟨rfl, rfl⟩ ⟨Nat.le_of_ble_eq_true rfl, Nat.le_of_ble_eq_true rfl⟩ rfl hl.1 rfl (Nat.le_of_ble_eq_true rfl) dX8_readRule_83 rfl (fun H locs hP hS => ?_)
      refine lv_aload_n hx hb dX8_readRule_86 rfl (lv_at hl 1 rfl) ?_
      refine r_get kc_8 10 X hP (lt_r hi (by decide)) (L_rules hi _) (by decide) rfl wt_1_46 dX8_readRule_87 ?_
      refine lv_aload_n hx hb dX8_readRule_90 rfl (lv_at hl 1 rfl) ?_
      refine r_get kc_8 12 X hP (lt_r hi (by decide)) (L_rules hi _) (by decide) rfl wt_1_48 dX8_readRule_91 ?_
      obtain ⟨hin_21, h⟩ := gx_some h
      refine r_iald X hP (lt_r hi (by decide)) ((La_r_8 hi) _) hin_21 rfl dX8_readRule_94 ?_
      refine lv_sipush (v := 315) hx hb dX8_readRule_95 (by decide) ?_
      refine lv_icmp_eq (tgt := 103) hx hb dX8_readRule_98 (by decide) (fun c_22 => ?_) (fun c_22 => ?_)
      · have h := ifp c_22 h
        refine lv_aload_n hx hb dX8_readRule_103 rfl (lv_at hl 1 rfl) ?_
        obtain ⟨r_23, m_24, hc_25, h⟩ := bd_some h
        refine c_V (rest := []) X hP hS (tX8_next hI hi hc_25) (lt_r hi (by decide)) (L_rules hi _) rfl wt_3_168 wt_3_170 ws_1_9 wt_1_2 wt_3_171 ⟨rfl, hy_X8_next⟩ ⟨rfl, rfl⟩ ⟨Nat.le_of_ble_eq_true rfl, Nat.le_of_ble_eq_true rfl⟩ rfl hl.1 rfl (Nat.le_of_ble_eq_true rfl) dX8_readRule_104 rfl (fun H locs hP hS => ?_)
        refine lv_aload_n hx hb dX8_readRule_107 rfl (lv_at hl 1 rfl) ?_
        refine r_get kc_8 1 X hP (lt_r hi (by decide)) (L_rules hi _) (by decide) rfl wt_1_37 dX8_readRule_108 ?_
        refine lv_aload_n hx hb dX8_readRule_111 rfl (lv_at hl 1 rfl) ?_
        refine r_get kc_8 0 X hP (lt_r hi (by decide)) (L_rules hi _) (by decide) rfl wt_1_35 dX8_readRule_112 ?_
        refine lv_iload_n hx hb dX8_readRule_115 rfl (lv_at hl 2 rfl) ?_
        obtain ⟨hin_26, h⟩ := gx_some h
        obtain ⟨m_27, em_28, h⟩ := lt_some h
        refine r_iast X hP hS (lt_r hi (by decide)) (La_r_1 hi) hin_26 rfl dX8_readRule_116 em_28 (fun H locs hP hS => ?_)
        refine lv_aload_n hx hb dX8_readRule_117 rfl (lv_at hl 1 rfl) ?_
        refine r_get kc_8 2 X hP (lt_r hi (by decide)) (L_rules hi _) (by decide) rfl wt_1_38 dX8_readRule_118 ?_
        refine lv_aload_n hx hb dX8_readRule_121 rfl (lv_at hl 1 rfl) ?_
        refine r_get kc_8 0 X hP (lt_r hi (by decide)) (L_rules hi _) (by decide) rfl wt_1_35 dX8_readRule_122 ?_
        refine lv_iload_n hx hb dX8_readRule_125 rfl (lv_at hl 0 rfl) ?_
        refine lv_bipush (v := 6) hx hb dX8_readRule_126 (by decide) ?_
        refine lv_isub hx hb dX8_readRule_128 ?_
        obtain ⟨hin_29, h⟩ := gx_some h
        obtain ⟨m_30, em_31, h⟩ := lt_some h
        refine r_iast X hP hS (lt_r hi (by decide)) (La_r_2 hi) hin_29 rfl dX8_readRule_129 em_31 (fun H locs hP hS => ?_)
        refine lv_aload_n hx hb dX8_readRule_130 rfl (lv_at hl 1 rfl) ?_
        refine r_get kc_8 3 X hP (lt_r hi (by decide)) (L_rules hi _) (by decide) rfl wt_1_39 dX8_readRule_131 ?_
        refine lv_aload_n hx hb dX8_readRule_134 rfl (lv_at hl 1 rfl) ?_
        refine r_get kc_8 0 X hP (lt_r hi (by decide)) (L_rules hi _) (by decide) rfl wt_1_35 dX8_readRule_135 ?_
        refine lv_iload_n hx hb dX8_readRule_138 rfl (lv_at hl 3 rfl) ?_
        obtain ⟨hin_32, h⟩ := gx_some h
        obtain ⟨m_33, em_34, h⟩ := lt_some h
        refine r_iast X hP hS (lt_r hi (by decide)) (La_r_3 hi) hin_32 rfl dX8_readRule_139 em_34 (fun H locs hP hS => ?_)
        refine lv_aload_n hx hb dX8_readRule_140 rfl (lv_at hl 1 rfl) ?_
        refine r_get kc_8 4 X hP (lt_r hi (by decide)) (L_rules hi _) (by decide) rfl wt_1_40 dX8_readRule_141 ?_
        refine lv_aload_n hx hb dX8_readRule_144 rfl (lv_at hl 1 rfl) ?_
        refine r_get kc_8 0 X hP (lt_r hi (by decide)) (L_rules hi _) (by decide) rfl wt_1_35 dX8_readRule_145 ?_
        refine lv_aload_n hx hb dX8_readRule_148 rfl (lv_at hl 1 rfl) ?_
        refine r_get kc_8 8 X hP (lt_r hi (by decide)) (L_rules hi _) (by decide) rfl wt_1_44 dX8_readRule_149 ?_
        obtain ⟨hin_35, h⟩ := gx_some h
        obtain ⟨m_36, em_37, h⟩ := lt_some h
        refine r_iast X hP hS (lt_r hi (by decide)) (La_r_4 hi) hin_35 rfl dX8_readRule_152 em_37 (fun H locs hP hS => ?_)
        refine lv_aload_n hx hb dX8_readRule_153 rfl (lv_at hl 1 rfl) ?_
        refine lv_dup hx hb dX8_readRule_154 rfl ?_
        refine r_get kc_8 0 X hP (lt_r hi (by decide)) (L_rules hi _) (by decide) rfl wt_1_35 dX8_readRule_155 ?_
        refine lv_iconst (v := 1) hx hb dX8_readRule_158 (by decide) ?_
        refine lv_iadd hx hb dX8_readRule_159 ?_
        obtain ⟨m_38, em_39, h⟩ := lt_some h
        refine r_put kc_8 0 X hP hS (lt_r hi (by decide)) (L_rules hi _) (L_rules hi _) (by decide) wt_1_35 rfl (by decide +kernel) (Nat.le_of_ble_eq_true rfl) dX8_readRule_160 em_39 (fun H locs hP hS => ?_)
        refine lv_iconst (v := 1) hx hb dX8_readRule_163 (by decide) ?_
        exact r_zret X (Or.inr rfl) hP hS dX8_readRule_164 h
      · have h := ifn c_22 h
        refine lv_iconst (v := 0) hx hb dX8_readRule_101 (by decide) ?_
        exact r_zret X (Or.inl rfl) hP hS dX8_readRule_102 h
    · have h := ifn c_17 h
      refine lv_iconst (v := 0) hx hb dX8_readRule_80 (by decide) ?_
      exact r_zret X (Or.inl rfl) hP hS dX8_readRule_81 h

def fX8_readRule (i : Nat) (m : Mm) : Option (Int32 × Mm) := gx (m (rp i 0) 12) 201 (lt (m (rp i 8) (ix (m (rp i 0) 12))) fun x1_2 => (if x1_2 < 0 then some (0, m) else (if x1_2 ≤ 5 then bd (fX8_next i m) fun r_6 m_7 => lt (m_7 (rp i 0) 8) fun x2_9 => gx (m_7 (rp i 0) 12) 201 ((if (m_7 (rp i 8) (ix (m_7 (rp i 0) 12))) = 9 then bd (fX8_next i m_7) fun r_40 m_41 => bd (rX8_readAny 6 i (0 : Int32) m_41) fun r_43 m_44 => (if r_43 = 0 then some (0, m_44) else fX8_readRule_58 i x1_2 x2_9 m_44) else fX8_readRule_58 i x1_2 x2_9 m_7)) else some (0, m))))
set_option maxHeartbeats 4000000 in
set_option maxRecDepth 100000 in
theorem tX8_readRule {l : Launch} {D : va_G} {cA : Nat → ClassId} {A : Nat → Nat} (hI : InjA cN A) {i : Nat} (hi : i < 3) {m m' : Mm} {r : Int32} (h : fX8_readRule i m = some (r, m')) : Met0 l yX8_readRule cX8_readRule 4 (some .boolean) { frames := 25, cells := 0, slots := 0, locals := 568 } cLay cN D cA A [.ref (A (rp i 0))] m (some (.int r)) m' := by
  refine met0_of (by decide) (Nat.le_of_ble_eq_true rfl) hI ?_
  intro p e s m0 below meth c ls X hinit hP hS hl
  generalize ([.ref (A (rp i 0))] : List Value).toArray = args at X ⊢
  have hl : lv_has ls 4 [(0, .ref (A (rp i 0)))] := hl
  have X : CX cLay cN D cA A p s m0 args meth c "BenchTowels$Rules" cX8_readRule 4 (some .boolean) := X
  have hx := X.1
  have hb := X.2.1
  have hml := X.2.2.1
  have hown := X.2.2.2.1
  have hts := X.2.2.2.2.1
  have hF := X.2.2.2.2.2.2.2.2.1
  rewrite [fX8_readRule] at h
  refine lv_aload_n hx hb dX8_readRule_0 rfl (lv_at hl 0 rfl) ?_
  refine r_get kc_8 10 X hP (lt_r hi (by decide)) (L_rules hi _) (by decide) rfl wt_1_46 dX8_readRule_1 ?_
  refine lv_aload_n hx hb dX8_readRule_4 rfl (lv_at hl 0 rfl) ?_
  refine r_get kc_8 12 X hP (lt_r hi (by decide)) (L_rules hi _) (by decide) rfl wt_1_48 dX8_readRule_5 ?_
  obtain ⟨hin_1, h⟩ := gx_some h
  refine r_iald X hP (lt_r hi (by decide)) ((La_r_8 hi) _) hin_1 rfl dX8_readRule_8 ?_
  obtain ⟨x1_2, ex_3, h⟩ := lt_some h
  refine lv_ren ex_3 ?_
  refine lv_istore_n (lv' := [(1, .int x1_2), (0, .ref (A (rp i 0)))]) hx hb dX8_readRule_9 rfl hl (by decide) rfl (fun ls hl => ?_)
  refine lv_iload_n hx hb dX8_readRule_10 rfl (lv_at hl 0 rfl) ?_
  refine lv_if_lt (tgt := 19) hx hb dX8_readRule_11 (by decide) (fun c_4 => ?_) (fun c_4 => ?_)
  · have h := ifp c_4 h
    refine lv_iconst (v := 0) hx hb dX8_readRule_19 (by decide) ?_
    exact r_zret X (Or.inl rfl) hP hS dX8_readRule_20 h
  · have h := ifn c_4 h
    refine lv_iload_n hx hb dX8_readRule_14 rfl (lv_at hl 0 rfl) ?_
    refine lv_iconst (v := 5) hx hb dX8_readRule_15 (by decide) ?_
    refine lv_icmp_le (tgt := 21) hx hb dX8_readRule_16 (by decide) (fun c_5 => ?_) (fun c_5 => ?_)
    · have h := ifp c_5 h
      refine lv_aload_n hx hb dX8_readRule_21 rfl (lv_at hl 1 rfl) ?_
      obtain ⟨r_6, m_7, hc_8, h⟩ := bd_some h
      refine c_V (rest := []) X hP hS (tX8_next hI hi hc_8) (lt_r hi (by decide)) (L_rules hi _) rfl wt_3_168 wt_3_170 ws_1_9 wt_1_2 wt_3_171 ⟨rfl, hy_X8_next⟩ ⟨rfl, rfl⟩ ⟨Nat.le_of_ble_eq_true rfl, Nat.le_of_ble_eq_true rfl⟩ rfl hl.1 rfl (Nat.le_of_ble_eq_true rfl) dX8_readRule_22 rfl (fun H locs hP hS => ?_)
      refine lv_aload_n hx hb dX8_readRule_25 rfl (lv_at hl 1 rfl) ?_
      refine r_get kc_8 8 X hP (lt_r hi (by decide)) (L_rules hi _) (by decide) rfl wt_1_44 dX8_readRule_26 ?_
      obtain ⟨x2_9, ex_10, h⟩ := lt_some h
      refine lv_ren ex_10 ?_
      refine lv_istore_n (lv' := [(2, .int x2_9), (1, .int x1_2), (0, .ref (A (rp i 0)))]) hx hb dX8_readRule_29 rfl hl (by decide) rfl (fun ls hl => ?_)
      refine lv_aload_n hx hb dX8_readRule_30 rfl (lv_at hl 2 rfl) ?_
      refine r_get kc_8 10 X hP (lt_r hi (by decide)) (L_rules hi _) (by decide) rfl wt_1_46 dX8_readRule_31 ?_
      refine lv_aload_n hx hb dX8_readRule_34 rfl (lv_at hl 2 rfl) ?_
      refine r_get kc_8 12 X hP (lt_r hi (by decide)) (L_rules hi _) (by decide) rfl wt_1_48 dX8_readRule_35 ?_
      obtain ⟨hin_11, h⟩ := gx_some h
      refine r_iald X hP (lt_r hi (by decide)) ((La_r_8 hi) _) hin_11 rfl dX8_readRule_38 ?_
      refine lv_bipush (v := 9) hx hb dX8_readRule_39 (by decide) ?_
      refine lv_icmp_ne (tgt := 58) hx hb dX8_readRule_41 (by decide) (fun c_12 => ?_) (fun c_12 => ?_)
      · have h := ifn c_12 h
        exact tX8_readRule_58 hI hi   X x1_2 x2_9 m_7 _ _ _  h hP hS (lv_sub hl [2, 1, 0] rfl)
      · have h := ifp c_12 h
        refine lv_aload_n hx hb dX8_readRule_44 rfl (lv_at hl 2 rfl) ?_
        obtain ⟨r_40, m_41, hc_42, h⟩ := bd_some h
        refine c_V (rest := []) X hP hS (tX8_next hI hi hc_42) (lt_r hi (by decide)) (L_rules hi _) rfl wt_3_168 wt_3_170 ws_1_9 wt_1_2 wt_3_171 ⟨rfl, hy_X8_next⟩ ⟨rfl, rfl⟩ ⟨Nat.le_of_ble_eq_true rfl, Nat.le_of_ble_eq_true rfl⟩ rfl hl.1 rfl (Nat.le_of_ble_eq_true rfl) dX8_readRule_45 rfl (fun H locs hP hS => ?_)
        refine lv_aload_n hx hb dX8_readRule_48 rfl (lv_at hl 2 rfl) ?_
        refine lv_iconst (v := 0) hx hb dX8_readRule_49 (by decide) ?_
        obtain ⟨r_43, m_44, hc_45, h⟩ := bd_some h
        refine c_V (rest := []) X hP hS (trX8_readAny hI hi 6 (0 : Int32) _ _ _ hc_45) (lt_r hi (by decide)) (L_rules hi _) rfl wt_3_172 wt_3_174 ws_1_10 wt_1_2 wt_3_175 ⟨rfl, hy_X8_readAny⟩ ⟨rfl, rfl⟩ ⟨Nat.le_of_ble_eq_true rfl, Nat.le_of_ble_eq_true rfl⟩ rfl hl.1 rfl (Nat.le_of_ble_eq_true rfl) dX8_readRule_50 rfl (fun H locs hP hS => ?_)
        refine lv_if_ne (tgt := 58) hx hb dX8_readRule_53 (by decide) (fun c_46 => ?_) (fun c_46 => ?_)
        · have h := ifn c_46 h
          exact tX8_readRule_58 hI hi   X x1_2 x2_9 m_44 _ _ _  h hP hS (lv_sub hl [2, 1, 0] rfl)
        · have h := ifp c_46 h
          refine lv_iconst (v := 0) hx hb dX8_readRule_56 (by decide) ?_
          exact r_zret X (Or.inl rfl) hP hS dX8_readRule_57 h
    · have h := ifn c_5 h
      refine lv_iconst (v := 0) hx hb dX8_readRule_19 (by decide) ?_
      exact r_zret X (Or.inl rfl) hP hS dX8_readRule_20 h

def fX8_read_58 (i : Nat)  (m : Mm) : Option (Int32 × Mm) := gx (m (rp i 0) 12) 201 (some ((m (rp i 9) (ix (m (rp i 0) 12))), m))
set_option maxHeartbeats 4000000 in
set_option maxRecDepth 100000 in
theorem tX8_read_58 (hI : InjA cN A) {i : Nat} (hi : i < 3) {r : Int32} {m' : Mm} (X : CX cLay cN D cA A p s m0 args meth c "BenchTowels$Rules" cX8_read 3 (some .int)) : ∀  (m : Mm) (H : Heap) (locs : List Loc) (ls : Array Slot), fX8_read_58 i  m = some (r, m') → va_P D vwCl (wsOf cLay cN cA A m) H → va_S (AW cN A) s.heap H locs → lv_has ls 3 [(0, .ref (A (rp i 0)))] → W p l e { frames := 26, cells := 0, slots := 0, locals := 591 } s m0 args below meth c H locs 0 0 (ZR below args s cLay cN D cA A (some (.int r)) m') (F0 m0 58 ls []) := by
  have hx := X.1
  have hb := X.2.1
  have hml := X.2.2.1
  have hown := X.2.2.2.1
  have hts := X.2.2.2.2.1
  have hF := X.2.2.2.2.2.2.2.2.1
  intro m H locs ls h hP hS hl
  rewrite [fX8_read_58] at h
  refine lv_aload_n hx hb dX8_read_58 rfl (lv_at hl 0 rfl) ?_
  refine r_get kc_8 11 X hP (lt_r hi (by decide)) (L_rules hi _) (by decide) rfl wt_1_47 dX8_read_59 ?_
  refine lv_aload_n hx hb dX8_read_62 rfl (lv_at hl 0 rfl) ?_
  refine r_get kc_8 12 X hP (lt_r hi (by decide)) (L_rules hi _) (by decide) rfl wt_1_48 dX8_read_63 ?_
  obtain ⟨hin_14, h⟩ := gx_some h
  refine r_iald X hP (lt_r hi (by decide)) ((La_r_9 hi) _) hin_14 rfl dX8_read_66 ?_
  exact r_iret X hP hS dX8_read_67 h

def fX8_read_22 (i : Nat) : Nat → Int32 → Mm → Option (Int32 × Mm)
  | 0, _, _ => none
  | n + 1, x2, m => (if (200 : Int32) < x2 then some ((-3), m) else gx (m (rp i 0) 12) 201 ((if (m (rp i 8) (ix (m (rp i 0) 12))) = (-1) then some ((-3), m) else (if (8 : Int32) ≤ (m (rp i 0) 0) then fX8_read_58 i m else bd (fX8_readRule i m) fun r_15 m_16 => (if r_15 = 0 then fX8_read_58 i m_16 else lt ((x2 : Int32) + 1) fun x2_19 => (fX8_read_22 i n x2_19 m_16))))))
set_option maxHeartbeats 4000000 in
set_option maxRecDepth 100000 in
theorem tX8_read_22 (hI : InjA cN A) {i : Nat} (hi : i < 3) {r : Int32} {m' : Mm} (X : CX cLay cN D cA A p s m0 args meth c "BenchTowels$Rules" cX8_read 3 (some .int)) : ∀ (n : Nat) (x2 : Int32) (m : Mm) (H : Heap) (locs : List Loc) (ls : Array Slot), fX8_read_22 i n x2 m = some (r, m') → va_P D vwCl (wsOf cLay cN cA A m) H → va_S (AW cN A) s.heap H locs → lv_has ls 3 [(0, .ref (A (rp i 0))), (2, .int x2)] → W p l e { frames := 26, cells := 0, slots := 0, locals := 591 } s m0 args below meth c H locs 0 0 (ZR below args s cLay cN D cA A (some (.int r)) m') (F0 m0 22 ls []) := by
  have hx := X.1
  have hb := X.2.1
  have hml := X.2.2.1
  have hown := X.2.2.2.1
  have hts := X.2.2.2.2.1
  have hF := X.2.2.2.2.2.2.2.2.1
  intro n
  induction n with
  | zero =>
    intro x2 m H locs ls h hP hS hl
    exact absurd h (by rewrite [fX8_read_22]; exact fun q => by cases q)
  | succ n ih =>
    intro x2 m H locs ls h hP hS hl
    rewrite [fX8_read_22] at h
    refine lv_iload_n hx hb dX8_read_22 rfl (lv_at hl 1 rfl) ?_
    refine lv_sipush (v := 200) hx hb dX8_read_23 (by decide) ?_
    refine lv_icmp_gt (tgt := 74) hx hb dX8_read_26 (by decide) (fun c_10 => ?_) (fun c_10 => ?_)
    · have h := ifp c_10 h
      refine lv_bipush (v := (-3)) hx hb dX8_read_74 (by decide) ?_
      exact r_iret X hP hS dX8_read_76 h
    · have h := ifn c_10 h
      refine lv_aload_n hx hb dX8_read_29 rfl (lv_at hl 0 rfl) ?_
      refine r_get kc_8 10 X hP (lt_r hi (by decide)) (L_rules hi _) (by decide) rfl wt_1_46 dX8_read_30 ?_
      refine lv_aload_n hx hb dX8_read_33 rfl (lv_at hl 0 rfl) ?_
      refine r_get kc_8 12 X hP (lt_r hi (by decide)) (L_rules hi _) (by decide) rfl wt_1_48 dX8_read_34 ?_
      obtain ⟨hin_11, h⟩ := gx_some h
      refine r_iald X hP (lt_r hi (by decide)) ((La_r_8 hi) _) hin_11 rfl dX8_read_37 ?_
      refine lv_iconst (v := (-1)) hx hb dX8_read_38 (by decide) ?_
      refine lv_icmp_eq (tgt := 74) hx hb dX8_read_39 (by decide) (fun c_12 => ?_) (fun c_12 => ?_)
      · have h := ifp c_12 h
        refine lv_bipush (v := (-3)) hx hb dX8_read_74 (by decide) ?_
        exact r_iret X hP hS dX8_read_76 h
      · have h := ifn c_12 h
        refine lv_aload_n hx hb dX8_read_42 rfl (lv_at hl 0 rfl) ?_
        refine r_get kc_8 0 X hP (lt_r hi (by decide)) (L_rules hi _) (by decide) rfl wt_1_35 dX8_read_43 ?_
        refine lv_bipush (v := 8) hx hb dX8_read_46 (by decide) ?_
        refine lv_icmp_ge (tgt := 58) hx hb dX8_read_48 (by decide) (fun c_13 => ?_) (fun c_13 => ?_)
        · have h := ifp c_13 h
          exact tX8_read_58 hI hi   X m _ _ _  h hP hS (lv_sub hl [0] rfl)
        · have h := ifn c_13 h
          refine lv_aload_n hx hb dX8_read_51 rfl (lv_at hl 0 rfl) ?_
          obtain ⟨r_15, m_16, hc_17, h⟩ := bd_some h
          refine c_V (rest := []) X hP hS (tX8_readRule hI hi hc_17) (lt_r hi (by decide)) (L_rules hi _) rfl wt_3_164 wt_3_166 ws_1_8 wt_1_2 wt_3_167 ⟨rfl, hy_X8_readRule⟩ ⟨rfl, rfl⟩ ⟨Nat.le_of_ble_eq_true rfl, Nat.le_of_ble_eq_true rfl⟩ rfl hl.1 rfl (Nat.le_of_ble_eq_true rfl) dX8_read_52 rfl (fun H locs hP hS => ?_)
          refine lv_if_ne (tgt := 68) hx hb dX8_read_55 (by decide) (fun c_18 => ?_) (fun c_18 => ?_)
          · have h := ifn c_18 h
            obtain ⟨x2_19, ex_20, h⟩ := lt_some h
            refine lv_iinc (v := x2_19) (lv' := [(2, .int x2_19), (0, .ref (A (rp i 0)))]) hx hb dX8_read_68 hl (k := 1) rfl (by rw [ex_20]; rfl) (by decide) rfl (fun ls hl => ?_)
            refine lv_goto (tgt := 22) hx hb dX8_read_71 (by decide) ?_
            exact ih x2_19 m_16 _ _ _  h hP hS (lv_sub hl [1, 0] rfl)
          · have h := ifp c_18 h
            exact tX8_read_58 hI hi   X m_16 _ _ _  h hP hS (lv_sub hl [0] rfl)

def fX8_read (i : Nat) (a1 : Int32) (m : Mm) : Option (Int32 × Mm) := bd (fX8_cut i a1 m) fun r_1 m_2 => lt (up m_2 (rp i 0) 12 0) fun m_4 => lt (up m_4 (rp i 0) 0 0) fun m_6 => lt (up m_6 (rp i 0) 8 0) fun m_8 => (fX8_read_22 i FL 0 m_8)
set_option maxHeartbeats 4000000 in
set_option maxRecDepth 100000 in
theorem tX8_read {l : Launch} {D : va_G} {cA : Nat → ClassId} {A : Nat → Nat} (hI : InjA cN A) {i : Nat} (hi : i < 3) {a1 : Int32} {m m' : Mm} {r : Int32} (h : fX8_read i a1 m = some (r, m')) : Met0 l yX8_read cX8_read 3 (some .int) { frames := 26, cells := 0, slots := 0, locals := 591 } cLay cN D cA A [.ref (A (rp i 0)), .int a1] m (some (.int r)) m' := by
  refine met0_of (by decide) (Nat.le_of_ble_eq_true rfl) hI ?_
  intro p e s m0 below meth c ls X hinit hP hS hl
  generalize ([.ref (A (rp i 0)), .int a1] : List Value).toArray = args at X ⊢
  have hl : lv_has ls 3 [(0, .ref (A (rp i 0))), (1, .int a1)] := hl
  have X : CX cLay cN D cA A p s m0 args meth c "BenchTowels$Rules" cX8_read 3 (some .int) := X
  have hx := X.1
  have hb := X.2.1
  have hml := X.2.2.1
  have hown := X.2.2.2.1
  have hts := X.2.2.2.2.1
  have hF := X.2.2.2.2.2.2.2.2.1
  rewrite [fX8_read] at h
  refine lv_aload_n hx hb dX8_read_0 rfl (lv_at hl 0 rfl) ?_
  refine lv_iload_n hx hb dX8_read_1 rfl (lv_at hl 1 rfl) ?_
  obtain ⟨r_1, m_2, hc_3, h⟩ := bd_some h
  refine c_V (rest := []) X hP hS (tX8_cut hI hi hc_3) (lt_r hi (by decide)) (L_rules hi _) rfl wt_3_93 wt_3_95 ws_1_2 wt_1_2 wt_3_96 ⟨rfl, hy_X8_cut⟩ ⟨rfl, rfl⟩ ⟨Nat.le_of_ble_eq_true rfl, Nat.le_of_ble_eq_true rfl⟩ rfl hl.1 rfl (Nat.le_of_ble_eq_true rfl) dX8_read_2 rfl (fun H locs hP hS => ?_)
  refine lv_aload_n hx hb dX8_read_5 rfl (lv_at hl 0 rfl) ?_
  refine lv_iconst (v := 0) hx hb dX8_read_6 (by decide) ?_
  obtain ⟨m_4, em_5, h⟩ := lt_some h
  refine r_put kc_8 12 X hP hS (lt_r hi (by decide)) (L_rules hi _) (L_rules hi _) (by decide) wt_1_48 rfl (by decide +kernel) (Nat.le_of_ble_eq_true rfl) dX8_read_7 em_5 (fun H locs hP hS => ?_)
  refine lv_aload_n hx hb dX8_read_10 rfl (lv_at hl 0 rfl) ?_
  refine lv_iconst (v := 0) hx hb dX8_read_11 (by decide) ?_
  obtain ⟨m_6, em_7, h⟩ := lt_some h
  refine r_put kc_8 0 X hP hS (lt_r hi (by decide)) (L_rules hi _) (L_rules hi _) (by decide) wt_1_35 rfl (by decide +kernel) (Nat.le_of_ble_eq_true rfl) dX8_read_12 em_7 (fun H locs hP hS => ?_)
  refine lv_aload_n hx hb dX8_read_15 rfl (lv_at hl 0 rfl) ?_
  refine lv_iconst (v := 0) hx hb dX8_read_16 (by decide) ?_
  obtain ⟨m_8, em_9, h⟩ := lt_some h
  refine r_put kc_8 8 X hP hS (lt_r hi (by decide)) (L_rules hi _) (L_rules hi _) (by decide) wt_1_44 rfl (by decide +kernel) (Nat.le_of_ble_eq_true rfl) dX8_read_17 em_9 (fun H locs hP hS => ?_)
  refine lv_iconst (v := 0) hx hb dX8_read_20 (by decide) ?_
  refine lv_istore_n (lv' := [(2, .int 0), (0, .ref (A (rp i 0))), (1, .int a1)]) hx hb dX8_read_21 rfl hl (by decide) rfl (fun ls hl => ?_)
  exact tX8_read_22 hI hi   X FL 0 m_8 _ _ _  h hP hS (lv_sub hl [1, 0] rfl)

def fX4_copy (i : Nat) (j : Nat) (m : Mm) : Option (Int32 × Mm) := lt (upA m (mp i 1) (cpy (m (mp j 1)) (m (mp i 1)) 6)) fun m_2 => lt (upA m_2 (mp i 2) (cpy (m_2 (mp j 2)) (m_2 (mp i 2)) 6)) fun m_5 => lt (upA m_5 (mp i 3) (cpy (m_5 (mp j 3)) (m_5 (mp i 3)) 6)) fun m_8 => lt (up m_8 (mp i 0) 3 (m_8 (mp j 0) 3)) fun m_10 => some (0, m_10)
set_option maxHeartbeats 4000000 in
set_option maxRecDepth 100000 in
theorem tX4_copy {l : Launch} {D : va_G} {cA : Nat → ClassId} {A : Nat → Nat} (hI : InjA cN A) {i : Nat} (hi : i < 2) {j : Nat} (hj : j < 2) {m m' : Mm} {r : Int32} (h : fX4_copy i j m = some (r, m')) : Met0 l yX4_copy cX4_copy 2 none { frames := 1, cells := 0, slots := 0, locals := 60 } cLay cN D cA A [.ref (A (mp i 0)), .ref (A (mp j 0))] m none m' := by
  refine met0_of (by decide) (Nat.le_of_ble_eq_true rfl) hI ?_
  intro p e s m0 below meth c ls X hinit hP hS hl
  generalize ([.ref (A (mp i 0)), .ref (A (mp j 0))] : List Value).toArray = args at X ⊢
  have hl : lv_has ls 2 [(0, .ref (A (mp i 0))), (1, .ref (A (mp j 0)))] := hl
  have X : CX cLay cN D cA A p s m0 args meth c "BenchTowels$Men" cX4_copy 2 none := X
  have hx := X.1
  have hb := X.2.1
  have hml := X.2.2.1
  have hown := X.2.2.2.1
  have hts := X.2.2.2.2.1
  have hF := X.2.2.2.2.2.2.2.2.1
  rewrite [fX4_copy] at h
  refine lv_aload_n hx hb dX4_copy_0 rfl (lv_at hl 1 rfl) ?_
  refine r_get kc_4 0 X hP (lt_m hj (by decide)) (L_men hj _) (by decide) rfl wt_1_84 dX4_copy_1 ?_
  refine lv_iconst (v := 0) hx hb dX4_copy_4 (by decide) ?_
  refine lv_aload_n hx hb dX4_copy_5 rfl (lv_at hl 0 rfl) ?_
  refine r_get kc_4 0 X hP (lt_m hi (by decide)) (L_men hi _) (by decide) rfl wt_1_84 dX4_copy_6 ?_
  refine lv_iconst (v := 0) hx hb dX4_copy_9 (by decide) ?_
  refine lv_bipush (v := 6) hx hb dX4_copy_10 (by decide) ?_
  obtain ⟨m_2, em_3, h⟩ := lt_some h
  refine r_copy (rest := []) X hP hS hl.1 (lt_m hj (by decide)) (La_m_1 hj) (lt_m hi (by decide)) (La_m_1 hi) (gcc (n := 6) (by decide)) (Nat.le_of_ble_eq_true rfl) (Nat.le_of_ble_eq_true rfl) ixc_6 (Nat.le_of_ble_eq_true rfl) (Nat.le_of_ble_eq_true rfl) wt_5_161 dX4_copy_12 em_3 (fun H locs hP hS => ?_)
  refine lv_aload_n hx hb dX4_copy_15 rfl (lv_at hl 1 rfl) ?_
  refine r_get kc_4 1 X hP (lt_m hj (by decide)) (L_men hj _) (by decide) rfl wt_1_85 dX4_copy_16 ?_
  refine lv_iconst (v := 0) hx hb dX4_copy_19 (by decide) ?_
  refine lv_aload_n hx hb dX4_copy_20 rfl (lv_at hl 0 rfl) ?_
  refine r_get kc_4 1 X hP (lt_m hi (by decide)) (L_men hi _) (by decide) rfl wt_1_85 dX4_copy_21 ?_
  refine lv_iconst (v := 0) hx hb dX4_copy_24 (by decide) ?_
  refine lv_bipush (v := 6) hx hb dX4_copy_25 (by decide) ?_
  obtain ⟨m_5, em_6, h⟩ := lt_some h
  refine r_copy (rest := []) X hP hS hl.1 (lt_m hj (by decide)) (La_m_2 hj) (lt_m hi (by decide)) (La_m_2 hi) (gcc (n := 6) (by decide)) (Nat.le_of_ble_eq_true rfl) (Nat.le_of_ble_eq_true rfl) ixc_6 (Nat.le_of_ble_eq_true rfl) (Nat.le_of_ble_eq_true rfl) wt_5_161 dX4_copy_27 em_6 (fun H locs hP hS => ?_)
  refine lv_aload_n hx hb dX4_copy_30 rfl (lv_at hl 1 rfl) ?_
  refine r_get kc_4 2 X hP (lt_m hj (by decide)) (L_men hj _) (by decide) rfl wt_1_86 dX4_copy_31 ?_
  refine lv_iconst (v := 0) hx hb dX4_copy_34 (by decide) ?_
  refine lv_aload_n hx hb dX4_copy_35 rfl (lv_at hl 0 rfl) ?_
  refine r_get kc_4 2 X hP (lt_m hi (by decide)) (L_men hi _) (by decide) rfl wt_1_86 dX4_copy_36 ?_
  refine lv_iconst (v := 0) hx hb dX4_copy_39 (by decide) ?_
  refine lv_bipush (v := 6) hx hb dX4_copy_40 (by decide) ?_
  obtain ⟨m_8, em_9, h⟩ := lt_some h
  refine r_copy (rest := []) X hP hS hl.1 (lt_m hj (by decide)) (La_m_3 hj) (lt_m hi (by decide)) (La_m_3 hi) (gcc (n := 6) (by decide)) (Nat.le_of_ble_eq_true rfl) (Nat.le_of_ble_eq_true rfl) ixc_6 (Nat.le_of_ble_eq_true rfl) (Nat.le_of_ble_eq_true rfl) wt_5_161 dX4_copy_42 em_9 (fun H locs hP hS => ?_)
  refine lv_aload_n hx hb dX4_copy_45 rfl (lv_at hl 0 rfl) ?_
  refine lv_aload_n hx hb dX4_copy_46 rfl (lv_at hl 1 rfl) ?_
  refine r_get kc_4 3 X hP (lt_m hj (by decide)) (L_men hj _) (by decide) rfl wt_1_87 dX4_copy_47 ?_
  obtain ⟨m_10, em_11, h⟩ := lt_some h
  refine r_put kc_4 3 X hP hS (lt_m hi (by decide)) (L_men hi _) (L_men hi _) (by decide) wt_1_87 rfl (by decide +kernel) (Nat.le_of_ble_eq_true rfl) dX4_copy_50 em_11 (fun H locs hP hS => ?_)
  exact r_vret X hP hS dX4_copy_53 h

def fX4_add (i : Nat) (a1 : Int32) (a2 : Int32) (a3 : Int32) (m : Mm) : Option (Int32 × Mm) := gx (m (mp i 0) 3) 6 (lt (up m (mp i 1) (ix (m (mp i 0) 3)) a1) fun m_2 => gx (m_2 (mp i 0) 3) 6 (lt (up m_2 (mp i 2) (ix (m_2 (mp i 0) 3)) a2) fun m_5 => gx (m_5 (mp i 0) 3) 6 (lt (up m_5 (mp i 3) (ix (m_5 (mp i 0) 3)) a3) fun m_8 => lt (up m_8 (mp i 0) 3 ((m_8 (mp i 0) 3) + 1)) fun m_10 => some (((m_10 (mp i 0) 3) - 1), m_10))))
set_option maxHeartbeats 4000000 in
set_option maxRecDepth 100000 in
theorem tX4_add {l : Launch} {D : va_G} {cA : Nat → ClassId} {A : Nat → Nat} (hI : InjA cN A) {i : Nat} (hi : i < 2) {a1 : Int32} {a2 : Int32} {a3 : Int32} {m m' : Mm} {r : Int32} (h : fX4_add i a1 a2 a3 m = some (r, m')) : Met0 l yX4_add cX4_add 4 (some .int) { frames := 0, cells := 0, slots := 0, locals := 0 } cLay cN D cA A [.ref (A (mp i 0)), .int a1, .int a2, .int a3] m (some (.int r)) m' := by
  refine met0_of (by decide) (Nat.le_of_ble_eq_true rfl) hI ?_
  intro p e s m0 below meth c ls X hinit hP hS hl
  generalize ([.ref (A (mp i 0)), .int a1, .int a2, .int a3] : List Value).toArray = args at X ⊢
  have hl : lv_has ls 4 [(0, .ref (A (mp i 0))), (1, .int a1), (2, .int a2), (3, .int a3)] := hl
  have X : CX cLay cN D cA A p s m0 args meth c "BenchTowels$Men" cX4_add 4 (some .int) := X
  have hx := X.1
  have hb := X.2.1
  have hml := X.2.2.1
  have hown := X.2.2.2.1
  have hts := X.2.2.2.2.1
  have hF := X.2.2.2.2.2.2.2.2.1
  rewrite [fX4_add] at h
  refine lv_aload_n hx hb dX4_add_0 rfl (lv_at hl 0 rfl) ?_
  refine r_get kc_4 0 X hP (lt_m hi (by decide)) (L_men hi _) (by decide) rfl wt_1_84 dX4_add_1 ?_
  refine lv_aload_n hx hb dX4_add_4 rfl (lv_at hl 0 rfl) ?_
  refine r_get kc_4 3 X hP (lt_m hi (by decide)) (L_men hi _) (by decide) rfl wt_1_87 dX4_add_5 ?_
  refine lv_iload_n hx hb dX4_add_8 rfl (lv_at hl 1 rfl) ?_
  obtain ⟨hin_1, h⟩ := gx_some h
  obtain ⟨m_2, em_3, h⟩ := lt_some h
  refine r_iast X hP hS (lt_m hi (by decide)) (La_m_1 hi) hin_1 rfl dX4_add_9 em_3 (fun H locs hP hS => ?_)
  refine lv_aload_n hx hb dX4_add_10 rfl (lv_at hl 0 rfl) ?_
  refine r_get kc_4 1 X hP (lt_m hi (by decide)) (L_men hi _) (by decide) rfl wt_1_85 dX4_add_11 ?_
  refine lv_aload_n hx hb dX4_add_14 rfl (lv_at hl 0 rfl) ?_
  refine r_get kc_4 3 X hP (lt_m hi (by decide)) (L_men hi _) (by decide) rfl wt_1_87 dX4_add_15 ?_
  refine lv_iload_n hx hb dX4_add_18 rfl (lv_at hl 2 rfl) ?_
  obtain ⟨hin_4, h⟩ := gx_some h
  obtain ⟨m_5, em_6, h⟩ := lt_some h
  refine r_iast X hP hS (lt_m hi (by decide)) (La_m_2 hi) hin_4 rfl dX4_add_19 em_6 (fun H locs hP hS => ?_)
  refine lv_aload_n hx hb dX4_add_20 rfl (lv_at hl 0 rfl) ?_
  refine r_get kc_4 2 X hP (lt_m hi (by decide)) (L_men hi _) (by decide) rfl wt_1_86 dX4_add_21 ?_
  refine lv_aload_n hx hb dX4_add_24 rfl (lv_at hl 0 rfl) ?_
  refine r_get kc_4 3 X hP (lt_m hi (by decide)) (L_men hi _) (by decide) rfl wt_1_87 dX4_add_25 ?_
  refine lv_iload_n hx hb dX4_add_28 rfl (lv_at hl 3 rfl) ?_
  obtain ⟨hin_7, h⟩ := gx_some h
  obtain ⟨m_8, em_9, h⟩ := lt_some h
  refine r_iast X hP hS (lt_m hi (by decide)) (La_m_3 hi) hin_7 rfl dX4_add_29 em_9 (fun H locs hP hS => ?_)
  refine lv_aload_n hx hb dX4_add_30 rfl (lv_at hl 0 rfl) ?_
  refine lv_dup hx hb dX4_add_31 rfl ?_
  refine r_get kc_4 3 X hP (lt_m hi (by decide)) (L_men hi _) (by decide) rfl wt_1_87 dX4_add_32 ?_
  refine lv_iconst (v := 1) hx hb dX4_add_35 (by decide) ?_
  refine lv_iadd hx hb dX4_add_36 ?_
  obtain ⟨m_10, em_11, h⟩ := lt_some h
  refine r_put kc_4 3 X hP hS (lt_m hi (by decide)) (L_men hi _) (L_men hi _) (by decide) wt_1_87 rfl (by decide +kernel) (Nat.le_of_ble_eq_true rfl) dX4_add_37 em_11 (fun H locs hP hS => ?_)
  refine lv_aload_n hx hb dX4_add_40 rfl (lv_at hl 0 rfl) ?_
  refine r_get kc_4 3 X hP (lt_m hi (by decide)) (L_men hi _) (by decide) rfl wt_1_87 dX4_add_41 ?_
  refine lv_iconst (v := 1) hx hb dX4_add_44 (by decide) ?_
  refine lv_isub hx hb dX4_add_45 ?_
  exact r_iret X hP hS dX4_add_46 h

def fX4_sat_6  : Nat → Int32 → Int32 → Int32 → Int32 → Int32 → Int32 → Mm → Option (Int32 × Mm)
  | 0, _, _, _, _, _, _, _ => none
  | n + 1, x0, x1, x2, x3, x4, x5, m => (if (x2 : Int32) ≤ x5 then some (x4, m) else (if (x3 : Int32) < (x0 + (x5 * x1)) then lt ((x5 : Int32) + 1) fun x5_3 => (fX4_sat_6 n x0 x1 x2 x3 x4 x5_3 m) else lt ((x4 : Int32) + 1) fun x4_5 => lt ((x5 : Int32) + 1) fun x5_7 => (fX4_sat_6 n x0 x1 x2 x3 x4_5 x5_7 m)))
set_option maxHeartbeats 4000000 in
set_option maxRecDepth 100000 in
theorem tX4_sat_6 (hI : InjA cN A)  {r : Int32} {m' : Mm} (X : CX cLay cN D cA A p s m0 args meth c "BenchTowels$Men" cX4_sat 6 (some .int)) : ∀ (n : Nat) (x0 : Int32) (x1 : Int32) (x2 : Int32) (x3 : Int32) (x4 : Int32) (x5 : Int32) (m : Mm) (H : Heap) (locs : List Loc) (ls : Array Slot), fX4_sat_6 n x0 x1 x2 x3 x4 x5 m = some (r, m') → va_P D vwCl (wsOf cLay cN cA A m) H → va_S (AW cN A) s.heap H locs → lv_has ls 6 [(0, .int x0), (1, .int x1), (2, .int x2), (3, .int x3), (4, .int x4), (5, .int x5)] → W p l e { frames := 0, cells := 0, slots := 0, locals := 0 } s m0 args below meth c H locs 0 0 (ZR below args s cLay cN D cA A (some (.int r)) m') (F0 m0 6 ls []) := by
  have hx := X.1
  have hb := X.2.1
  have hml := X.2.2.1
  have hown := X.2.2.2.1
  have hts := X.2.2.2.2.1
  have hF := X.2.2.2.2.2.2.2.2.1
  intro n
  induction n with
  | zero =>
    intro x0 x1 x2 x3 x4 x5 m H locs ls h hP hS hl
    exact absurd h (by rewrite [fX4_sat_6]; exact fun q => by cases q)
  | succ n ih =>
    intro x0 x1 x2 x3 x4 x5 m H locs ls h hP hS hl
    rewrite [fX4_sat_6] at h
    refine lv_iload hx hb dX4_sat_6 (lv_at hl 5 rfl) ?_
    refine lv_iload_n hx hb dX4_sat_8 rfl (lv_at hl 2 rfl) ?_
    refine lv_icmp_ge (tgt := 31) hx hb dX4_sat_9 (by decide) (fun c_1 => ?_) (fun c_1 => ?_)
    · have h := ifp c_1 h
      refine lv_iload hx hb dX4_sat_31 (lv_at hl 4 rfl) ?_
      exact r_iret X hP hS dX4_sat_33 h
    · have h := ifn c_1 h
      refine lv_iload_n hx hb dX4_sat_12 rfl (lv_at hl 0 rfl) ?_
      refine lv_iload hx hb dX4_sat_13 (lv_at hl 5 rfl) ?_
      refine lv_iload_n hx hb dX4_sat_15 rfl (lv_at hl 1 rfl) ?_
      refine lv_imul hx hb dX4_sat_16 ?_
      refine lv_iadd hx hb dX4_sat_17 ?_
      refine lv_iload_n hx hb dX4_sat_18 rfl (lv_at hl 3 rfl) ?_
      refine lv_icmp_gt (tgt := 25) hx hb dX4_sat_19 (by decide) (fun c_2 => ?_) (fun c_2 => ?_)
      · have h := ifp c_2 h
        obtain ⟨x5_3, ex_4, h⟩ := lt_some h
        refine lv_iinc (v := x5_3) (lv' := [(5, .int x5_3), (0, .int x0), (1, .int x1), (2, .int x2), (3, .int x3), (4, .int x4)]) hx hb dX4_sat_25 hl (k := 5) rfl (by rw [ex_4]; rfl) (by decide) rfl (fun ls hl => ?_)
        refine lv_goto (tgt := 6) hx hb dX4_sat_28 (by decide) ?_
        exact ih x0 x1 x2 x3 x4 x5_3 m _ _ _  h hP hS (lv_sub hl [1, 2, 3, 4, 5, 0] rfl)
      · have h := ifn c_2 h
        obtain ⟨x4_5, ex_6, h⟩ := lt_some h
        refine lv_iinc (v := x4_5) (lv' := [(4, .int x4_5), (0, .int x0), (1, .int x1), (2, .int x2), (3, .int x3), (5, .int x5)]) hx hb dX4_sat_22 hl (k := 4) rfl (by rw [ex_6]; rfl) (by decide) rfl (fun ls hl => ?_)
        obtain ⟨x5_7, ex_8, h⟩ := lt_some h
        refine lv_iinc (v := x5_7) (lv' := [(5, .int x5_7), (4, .int x4_5), (0, .int x0), (1, .int x1), (2, .int x2), (3, .int x3)]) hx hb dX4_sat_25 hl (k := 5) rfl (by rw [ex_8]; rfl) (by decide) rfl (fun ls hl => ?_)
        refine lv_goto (tgt := 6) hx hb dX4_sat_28 (by decide) ?_
        exact ih x0 x1 x2 x3 x4_5 x5_7 m _ _ _  h hP hS (lv_sub hl [2, 3, 4, 5, 1, 0] rfl)

def fX4_sat (a1 : Int32) (a2 : Int32) (a3 : Int32) (a4 : Int32) (m : Mm) : Option (Int32 × Mm) := (fX4_sat_6  FL a1 a2 a3 a4 0 0 m)
set_option maxHeartbeats 4000000 in
set_option maxRecDepth 100000 in
theorem tX4_sat {l : Launch} {D : va_G} {cA : Nat → ClassId} {A : Nat → Nat} (hI : InjA cN A) {a1 : Int32} {a2 : Int32} {a3 : Int32} {a4 : Int32} {m m' : Mm} {r : Int32} (h : fX4_sat a1 a2 a3 a4 m = some (r, m')) : Met0 l yX4_sat cX4_sat 6 (some .int) { frames := 0, cells := 0, slots := 0, locals := 0 } cLay cN D cA A [.int a1, .int a2, .int a3, .int a4] m (some (.int r)) m' := by
  refine met0_of (by decide) (Nat.le_of_ble_eq_true rfl) hI ?_
  intro p e s m0 below meth c ls X hinit hP hS hl
  generalize ([.int a1, .int a2, .int a3, .int a4] : List Value).toArray = args at X ⊢
  have hl : lv_has ls 6 [(0, .int a1), (1, .int a2), (2, .int a3), (3, .int a4)] := hl
  have X : CX cLay cN D cA A p s m0 args meth c "BenchTowels$Men" cX4_sat 6 (some .int) := X
  have hx := X.1
  have hb := X.2.1
  have hml := X.2.2.1
  have hown := X.2.2.2.1
  have hts := X.2.2.2.2.1
  have hF := X.2.2.2.2.2.2.2.2.1
  rewrite [fX4_sat] at h
  refine lv_iconst (v := 0) hx hb dX4_sat_0 (by decide) ?_
  refine lv_istore (lv' := [(4, .int 0), (0, .int a1), (1, .int a2), (2, .int a3), (3, .int a4)]) hx hb dX4_sat_1 hl (by decide) rfl (fun ls hl => ?_)
  refine lv_iconst (v := 0) hx hb dX4_sat_3 (by decide) ?_
  refine lv_istore (lv' := [(5, .int 0), (4, .int 0), (0, .int a1), (1, .int a2), (2, .int a3), (3, .int a4)]) hx hb dX4_sat_4 hl (by decide) rfl (fun ls hl => ?_)
  exact tX4_sat_6 hI    X FL a1 a2 a3 a4 0 0 m _ _ _  h hP hS (lv_sub hl [2, 3, 4, 5, 1, 0] rfl)

def fX4_lookAt_121 (i : Nat)  (m : Mm) : Option (Int32 × Mm) := lt (up m (mp i 0) 4 ((m (mp i 0) 4) + 1)) fun m_5 => some (0, m_5)
set_option maxHeartbeats 4000000 in
set_option maxRecDepth 100000 in
theorem tX4_lookAt_121 (hI : InjA cN A) {i : Nat} (hi : i < 2) {r : Int32} {m' : Mm} (X : CX cLay cN D cA A p s m0 args meth c "BenchTowels$Men" cX4_lookAt 8 none) : ∀  (m : Mm) (H : Heap) (locs : List Loc) (ls : Array Slot), fX4_lookAt_121 i  m = some (r, m') → va_P D vwCl (wsOf cLay cN cA A m) H → va_S (AW cN A) s.heap H locs → lv_has ls 8 [(0, .ref (A (mp i 0)))] → W p l e { frames := 1, cells := 0, slots := 0, locals := 40 } s m0 args below meth c H locs 0 0 (ZR below args s cLay cN D cA A none m') (F0 m0 121 ls []) := by
  have hx := X.1
  have hb := X.2.1
  have hml := X.2.2.1
  have hown := X.2.2.2.1
  have hts := X.2.2.2.2.1
  have hF := X.2.2.2.2.2.2.2.2.1
  intro m H locs ls h hP hS hl
  rewrite [fX4_lookAt_121] at h
  refine lv_aload_n hx hb dX4_lookAt_121 rfl (lv_at hl 0 rfl) ?_
  refine lv_dup hx hb dX4_lookAt_122 rfl ?_
  refine r_get kc_4 4 X hP (lt_m hi (by decide)) (L_men hi _) (by decide) rfl wt_1_89 dX4_lookAt_123 ?_
  refine lv_iconst (v := 1) hx hb dX4_lookAt_126 (by decide) ?_
  refine lv_iadd hx hb dX4_lookAt_127 ?_
  obtain ⟨m_5, em_6, h⟩ := lt_some h
  refine r_put kc_4 4 X hP hS (lt_m hi (by decide)) (L_men hi _) (L_men hi _) (by decide) wt_1_89 rfl (by decide +kernel) (Nat.le_of_ble_eq_true rfl) dX4_lookAt_128 em_6 (fun H locs hP hS => ?_)
  exact r_vret X hP hS dX4_lookAt_131 h

def fX4_lookAt_93 (i : Nat) (x1 : Int32) (x2 : Int32) (x3 : Int32) (x4 : Int32) (m : Mm) : Option (Int32 × Mm) := (if x4 ≤ 0 then (if (m (mp i 0) 4) = 0 then lt (up m (mp i 0) 5 x1) fun m_7 => lt (up m_7 (mp i 0) 6 x2) fun m_9 => lt (up m_9 (mp i 0) 7 x3) fun m_11 => (fX4_lookAt_121 i m_11) else fX4_lookAt_121 i m) else some (0, m))
set_option maxHeartbeats 4000000 in
set_option maxRecDepth 100000 in
theorem tX4_lookAt_93 (hI : InjA cN A) {i : Nat} (hi : i < 2) {r : Int32} {m' : Mm} (X : CX cLay cN D cA A p s m0 args meth c "BenchTowels$Men" cX4_lookAt 8 none) : ∀ (x1 : Int32) (x2 : Int32) (x3 : Int32) (x4 : Int32) (m : Mm) (H : Heap) (locs : List Loc) (ls : Array Slot), fX4_lookAt_93 i x1 x2 x3 x4 m = some (r, m') → va_P D vwCl (wsOf cLay cN cA A m) H → va_S (AW cN A) s.heap H locs → lv_has ls 8 [(0, .ref (A (mp i 0))), (1, .int x1), (2, .int x2), (3, .int x3), (4, .int x4)] → W p l e { frames := 1, cells := 0, slots := 0, locals := 40 } s m0 args below meth c H locs 0 0 (ZR below args s cLay cN D cA A none m') (F0 m0 93 ls []) := by
  have hx := X.1
  have hb := X.2.1
  have hml := X.2.2.1
  have hown := X.2.2.2.1
  have hts := X.2.2.2.2.1
  have hF := X.2.2.2.2.2.2.2.2.1
  intro x1 x2 x3 x4 m H locs ls h hP hS hl
  rewrite [fX4_lookAt_93] at h
  refine lv_iload hx hb dX4_lookAt_93 (lv_at hl 4 rfl) ?_
  refine lv_if_le (tgt := 99) hx hb dX4_lookAt_95 (by decide) (fun c_3 => ?_) (fun c_3 => ?_)
  · have h := ifp c_3 h
    refine lv_aload_n hx hb dX4_lookAt_99 rfl (lv_at hl 0 rfl) ?_
    refine r_get kc_4 4 X hP (lt_m hi (by decide)) (L_men hi _) (by decide) rfl wt_1_89 dX4_lookAt_100 ?_
    refine lv_if_ne (tgt := 121) hx hb dX4_lookAt_103 (by decide) (fun c_4 => ?_) (fun c_4 => ?_)
    · have h := ifn c_4 h
      exact tX4_lookAt_121 hI hi   X m _ _ _  h hP hS (lv_sub hl [0] rfl)
    · have h := ifp c_4 h
      refine lv_aload_n hx hb dX4_lookAt_106 rfl (lv_at hl 0 rfl) ?_
      refine lv_iload_n hx hb dX4_lookAt_107 rfl (lv_at hl 1 rfl) ?_
      obtain ⟨m_7, em_8, h⟩ := lt_some h
      refine r_put kc_4 5 X hP hS (lt_m hi (by decide)) (L_men hi _) (L_men hi _) (by decide) wt_1_91 rfl (by decide +kernel) (Nat.le_of_ble_eq_true rfl) dX4_lookAt_108 em_8 (fun H locs hP hS => ?_)
      refine lv_aload_n hx hb dX4_lookAt_111 rfl (lv_at hl 0 rfl) ?_
      refine lv_iload_n hx hb dX4_lookAt_112 rfl (lv_at hl 2 rfl) ?_
      obtain ⟨m_9, em_10, h⟩ := lt_some h
      refine r_put kc_4 6 X hP hS (lt_m hi (by decide)) (L_men hi _) (L_men hi _) (by decide) wt_1_93 rfl (by decide +kernel) (Nat.le_of_ble_eq_true rfl) dX4_lookAt_113 em_10 (fun H locs hP hS => ?_)
      refine lv_aload_n hx hb dX4_lookAt_116 rfl (lv_at hl 0 rfl) ?_
      refine lv_iload_n hx hb dX4_lookAt_117 rfl (lv_at hl 3 rfl) ?_
      obtain ⟨m_11, em_12, h⟩ := lt_some h
      refine r_put kc_4 7 X hP hS (lt_m hi (by decide)) (L_men hi _) (L_men hi _) (by decide) wt_1_95 rfl (by decide +kernel) (Nat.le_of_ble_eq_true rfl) dX4_lookAt_118 em_12 (fun H locs hP hS => ?_)
      exact tX4_lookAt_121 hI hi   X m_11 _ _ _  h hP hS (lv_sub hl [0] rfl)
  · have h := ifn c_3 h
    exact r_vret X hP hS dX4_lookAt_98 h

def fX4_lookAt_61 (K10 : Int32 → Int32 → Int32 → Int32 → Int32 → Int32 → Mm → Option (Int32 × Mm)) (i : Nat) (x1 : Int32) (x2 : Int32) (x3 : Int32) (x4 : Int32) (x6 : Int32) (m : Mm) : Option (Int32 × Mm) := lt ((x4 : Int32) + 1) fun x4_20 => lt ((x6 : Int32) + 1) fun x6_22 => (K10 x1 x2 x3 x4_20 x6 x6_22 m)
set_option maxHeartbeats 4000000 in
set_option maxRecDepth 100000 in
theorem tX4_lookAt_61 (hI : InjA cN A) {i : Nat} (hi : i < 2) {r : Int32} {m' : Mm} {K10 : Int32 → Int32 → Int32 → Int32 → Int32 → Int32 → Mm → Option (Int32 × Mm)} (hK10 : ∀ (x1 : Int32) (x2 : Int32) (x3 : Int32) (x4 : Int32) (x5 : Int32) (x6 : Int32) (m : Mm) (H : Heap) (locs : List Loc) (ls : Array Slot), K10 x1 x2 x3 x4 x5 x6 m = some (r, m') → va_P D vwCl (wsOf cLay cN cA A m) H → va_S (AW cN A) s.heap H locs → lv_has ls 8 [(0, .ref (A (mp i 0))), (1, .int x1), (2, .int x2), (3, .int x3), (4, .int x4), (5, .int x5), (6, .int x6)] → W p l e { frames := 1, cells := 0, slots := 0, locals := 40 } s m0 args below meth c H locs 0 0 (ZR below args s cLay cN D cA A none m') (F0 m0 10 ls [])) (X : CX cLay cN D cA A p s m0 args meth c "BenchTowels$Men" cX4_lookAt 8 none) : ∀ (x1 : Int32) (x2 : Int32) (x3 : Int32) (x4 : Int32) (x6 : Int32) (m : Mm) (H : Heap) (locs : List Loc) (ls : Array Slot), fX4_lookAt_61 K10 i x1 x2 x3 x4 x6 m = some (r, m') → va_P D vwCl (wsOf cLay cN cA A m) H → va_S (AW cN A) s.heap H locs → lv_has ls 8 [(0, .ref (A (mp i 0))), (1, .int x1), (2, .int x2), (3, .int x3), (4, .int x4), (6, .int x6)] → W p l e { frames := 1, cells := 0, slots := 0, locals := 40 } s m0 args below meth c H locs 0 0 (ZR below args s cLay cN D cA A none m') (F0 m0 61 ls []) := by
  have hx := X.1
  have hb := X.2.1
  have hml := X.2.2.1
  have hown := X.2.2.2.1
  have hts := X.2.2.2.2.1
  have hF := X.2.2.2.2.2.2.2.2.1
  intro x1 x2 x3 x4 x6 m H locs ls h hP hS hl
  rewrite [fX4_lookAt_61] at h
  obtain ⟨x4_20, ex_21, h⟩ := lt_some h
  refine lv_iinc (v := x4_20) (lv' := [(4, .int x4_20), (0, .ref (A (mp i 0))), (1, .int x1), (2, .int x2), (3, .int x3), (6, .int x6)]) hx hb dX4_lookAt_61 hl (k := 4) rfl (by rw [ex_21]; rfl) (by decide) rfl (fun ls hl => ?_)
  refine lv_iload hx hb dX4_lookAt_64 (lv_at hl 5 rfl) ?_
  refine lv_istore (lv' := [(5, .int x6), (4, .int x4_20), (0, .ref (A (mp i 0))), (1, .int x1), (2, .int x2), (3, .int x3), (6, .int x6)]) hx hb dX4_lookAt_66 hl (by decide) rfl (fun ls hl => ?_)
  obtain ⟨x6_22, ex_23, h⟩ := lt_some h
  refine lv_iinc (v := x6_22) (lv' := [(6, .int x6_22), (5, .int x6), (4, .int x4_20), (0, .ref (A (mp i 0))), (1, .int x1), (2, .int x2), (3, .int x3)]) hx hb dX4_lookAt_68 hl (k := 6) rfl (by rw [ex_23]; rfl) (by decide) rfl (fun ls hl => ?_)
  refine lv_goto (tgt := 10) hx hb dX4_lookAt_71 (by decide) ?_
  exact hK10 x1 x2 x3 x4_20 x6 x6_22 m _ _ _  h hP hS (lv_sub hl [3, 4, 5, 6, 2, 1, 0] rfl)

def fX4_lookAt_10 (i : Nat) : Nat → Int32 → Int32 → Int32 → Int32 → Int32 → Int32 → Mm → Option (Int32 × Mm)
  | 0, _, _, _, _, _, _, _ => none
  | n + 1, x1, x2, x3, x4, x5, x6, m => (if ((m (mp i 0) 3) : Int32) ≤ x6 then (if x4 = 1 then lt (up m (mp i 0) 8 (if x5 < (m (mp i 0) 8) then x5 else (m (mp i 0) 8))) fun m_13 => (fX4_lookAt_93 i x1 x2 x3 x4 m_13) else fX4_lookAt_93 i x1 x2 x3 x4 m) else gx x6 6 (bd (fX4_sat x1 x2 x3 (m (mp i 1) (ix x6)) m) fun r_16 m_17 => (if r_16 < (m_17 (mp i 2) (ix x6)) then fX4_lookAt_61 (fun x1 x2 x3 x4 x5 x6 m => fX4_lookAt_10 i n x1 x2 x3 x4 x5 x6 m) i x1 x2 x3 x4 x6 m_17 else (if ((m_17 (mp i 3) (ix x6)) : Int32) < r_16 then fX4_lookAt_61 (fun x1 x2 x3 x4 x5 x6 m => fX4_lookAt_10 i n x1 x2 x3 x4 x5 x6 m) i x1 x2 x3 x4 x6 m_17 else lt ((x6 : Int32) + 1) fun x6_25 => (fX4_lookAt_10 i n x1 x2 x3 x4 x5 x6_25 m_17)))))
set_option maxHeartbeats 4000000 in
set_option maxRecDepth 100000 in
theorem tX4_lookAt_10 (hI : InjA cN A) {i : Nat} (hi : i < 2) {r : Int32} {m' : Mm} (X : CX cLay cN D cA A p s m0 args meth c "BenchTowels$Men" cX4_lookAt 8 none) : ∀ (n : Nat) (x1 : Int32) (x2 : Int32) (x3 : Int32) (x4 : Int32) (x5 : Int32) (x6 : Int32) (m : Mm) (H : Heap) (locs : List Loc) (ls : Array Slot), fX4_lookAt_10 i n x1 x2 x3 x4 x5 x6 m = some (r, m') → va_P D vwCl (wsOf cLay cN cA A m) H → va_S (AW cN A) s.heap H locs → lv_has ls 8 [(0, .ref (A (mp i 0))), (1, .int x1), (2, .int x2), (3, .int x3), (4, .int x4), (5, .int x5), (6, .int x6)] → W p l e { frames := 1, cells := 0, slots := 0, locals := 40 } s m0 args below meth c H locs 0 0 (ZR below args s cLay cN D cA A none m') (F0 m0 10 ls []) := by
  have hx := X.1
  have hb := X.2.1
  have hml := X.2.2.1
  have hown := X.2.2.2.1
  have hts := X.2.2.2.2.1
  have hF := X.2.2.2.2.2.2.2.2.1
  intro n
  induction n with
  | zero =>
    intro x1 x2 x3 x4 x5 x6 m H locs ls h hP hS hl
    exact absurd h (by rewrite [fX4_lookAt_10]; exact fun q => by cases q)
  | succ n ih =>
    intro x1 x2 x3 x4 x5 x6 m H locs ls h hP hS hl
    rewrite [fX4_lookAt_10] at h
    refine lv_iload hx hb dX4_lookAt_10 (lv_at hl 6 rfl) ?_
    refine lv_aload_n hx hb dX4_lookAt_12 rfl (lv_at hl 0 rfl) ?_
    refine r_get kc_4 3 X hP (lt_m hi (by decide)) (L_men hi _) (by decide) rfl wt_1_87 dX4_lookAt_13 ?_
    refine lv_icmp_ge (tgt := 74) hx hb dX4_lookAt_16 (by decide) (fun c_1 => ?_) (fun c_1 => ?_)
    · have h := ifp c_1 h
      refine lv_iload hx hb dX4_lookAt_74 (lv_at hl 4 rfl) ?_
      refine lv_iconst (v := 1) hx hb dX4_lookAt_76 (by decide) ?_
      refine lv_icmp_ne (tgt := 93) hx hb dX4_lookAt_77 (by decide) (fun c_2 => ?_) (fun c_2 => ?_)
      · have h := ifn c_2 h
        exact tX4_lookAt_93 hI hi   X x1 x2 x3 x4 m _ _ _  h hP hS (lv_sub hl [0, 1, 2, 3, 4] rfl)
      · have h := ifp c_2 h
        refine lv_aload_n hx hb dX4_lookAt_80 rfl (lv_at hl 0 rfl) ?_
        refine lv_aload_n hx hb dX4_lookAt_81 rfl (lv_at hl 0 rfl) ?_
        refine r_get kc_4 8 X hP (lt_m hi (by decide)) (L_men hi _) (by decide) rfl wt_1_97 dX4_lookAt_82 ?_
        refine lv_iload hx hb dX4_lookAt_85 (lv_at hl 5 rfl) ?_
        refine va_mmin (rest := [.ref (A (mp i 0))]) hx hb (hml.trans hl.1.symm) hown (hts _ wt_4_175) (hts _ wt_3_236) (hts _ wt_1_19) (hts _ wt_3_237) (Nat.le_of_ble_eq_true rfl) (Nat.le_of_ble_eq_true rfl) (Nat.zero_le _) (Nat.zero_le _) dX4_lookAt_87 ?_
        obtain ⟨m_13, em_14, h⟩ := lt_some h
        refine r_put kc_4 8 X hP hS (lt_m hi (by decide)) (L_men hi _) (L_men hi _) (by decide) wt_1_97 rfl (by decide +kernel) (Nat.le_of_ble_eq_true rfl) dX4_lookAt_90 em_14 (fun H locs hP hS => ?_)
        exact tX4_lookAt_93 hI hi   X x1 x2 x3 x4 m_13 _ _ _  h hP hS (lv_sub hl [0, 1, 2, 3, 4] rfl)
    · have h := ifn c_1 h
      refine lv_iload_n hx hb dX4_lookAt_19 rfl (lv_at hl 1 rfl) ?_
      refine lv_iload_n hx hb dX4_lookAt_20 rfl (lv_at hl 2 rfl) ?_
      refine lv_iload_n hx hb dX4_lookAt_21 rfl (lv_at hl 3 rfl) ?_
      refine lv_aload_n hx hb dX4_lookAt_22 rfl (lv_at hl 0 rfl) ?_
      refine r_get kc_4 0 X hP (lt_m hi (by decide)) (L_men hi _) (by decide) rfl wt_1_84 dX4_lookAt_23 ?_
      refine lv_iload hx hb dX4_lookAt_26 (lv_at hl 6 rfl) ?_
      obtain ⟨hin_15, h⟩ := gx_some h
      refine r_iald X hP (lt_m hi (by decide)) ((La_m_1 hi) _) hin_15 rfl dX4_lookAt_28 ?_
      obtain ⟨r_16, m_17, hc_18, h⟩ := bd_some h
      refine c_S (rest := []) X hP hS (tX4_sat hI  hc_18) wt_4_172 wt_4_173 wt_1_3 wt_4_174 hy_X4_sat ⟨rfl, rfl⟩ ⟨Nat.le_of_ble_eq_true rfl, Nat.le_of_ble_eq_true rfl⟩ rfl hl.1 rfl (Nat.le_of_ble_eq_true rfl) dX4_lookAt_29 rfl (fun H locs hP hS => ?_)
      refine lv_istore (lv' := [(7, .int r_16), (0, .ref (A (mp i 0))), (1, .int x1), (2, .int x2), (3, .int x3), (4, .int x4), (5, .int x5), (6, .int x6)]) hx hb dX4_lookAt_32 hl (by decide) rfl (fun ls hl => ?_)
      refine lv_iload hx hb dX4_lookAt_34 (lv_at hl 0 rfl) ?_
      refine lv_aload_n hx hb dX4_lookAt_36 rfl (lv_at hl 1 rfl) ?_
      refine r_get kc_4 1 X hP (lt_m hi (by decide)) (L_men hi _) (by decide) rfl wt_1_85 dX4_lookAt_37 ?_
      refine lv_iload hx hb dX4_lookAt_40 (lv_at hl 7 rfl) ?_
      refine r_iald X hP (lt_m hi (by decide)) ((La_m_2 hi) _) hin_15 rfl dX4_lookAt_42 ?_
      refine lv_icmp_lt (tgt := 61) hx hb dX4_lookAt_43 (by decide) (fun c_19 => ?_) (fun c_19 => ?_)
      · have h := ifp c_19 h
        exact tX4_lookAt_61 hI hi  (fun x1 x2 x3 x4 x5 x6 m H locs ls  h hP hS hl => ih x1 x2 x3 x4 x5 x6 m H locs ls  h hP hS hl) X x1 x2 x3 x4 x6 m_17 _ _ _  h hP hS (lv_sub hl [1, 2, 3, 4, 5, 7] rfl)
      · have h := ifn c_19 h
        refine lv_iload hx hb dX4_lookAt_46 (lv_at hl 0 rfl) ?_
        refine lv_aload_n hx hb dX4_lookAt_48 rfl (lv_at hl 1 rfl) ?_
        refine r_get kc_4 2 X hP (lt_m hi (by decide)) (L_men hi _) (by decide) rfl wt_1_86 dX4_lookAt_49 ?_
        refine lv_iload hx hb dX4_lookAt_52 (lv_at hl 7 rfl) ?_
        refine r_iald X hP (lt_m hi (by decide)) ((La_m_3 hi) _) hin_15 rfl dX4_lookAt_54 ?_
        refine lv_icmp_gt (tgt := 61) hx hb dX4_lookAt_55 (by decide) (fun c_24 => ?_) (fun c_24 => ?_)
        · have h := ifp c_24 h
          exact tX4_lookAt_61 hI hi  (fun x1 x2 x3 x4 x5 x6 m H locs ls  h hP hS hl => ih x1 x2 x3 x4 x5 x6 m H locs ls  h hP hS hl) X x1 x2 x3 x4 x6 m_17 _ _ _  h hP hS (lv_sub hl [1, 2, 3, 4, 5, 7] rfl)
        · have h := ifn c_24 h
          refine lv_goto (tgt := 68) hx hb dX4_lookAt_58 (by decide) ?_
          obtain ⟨x6_25, ex_26, h⟩ := lt_some h
          refine lv_iinc (v := x6_25) (lv' := [(6, .int x6_25), (7, .int r_16), (0, .ref (A (mp i 0))), (1, .int x1), (2, .int x2), (3, .int x3), (4, .int x4), (5, .int x5)]) hx hb dX4_lookAt_68 hl (k := 7) rfl (by rw [ex_26]; rfl) (by decide) rfl (fun ls hl => ?_)
          refine lv_goto (tgt := 10) hx hb dX4_lookAt_71 (by decide) ?_
          exact ih x1 x2 x3 x4 x5 x6_25 m_17 _ _ _  h hP hS (lv_sub hl [2, 3, 4, 5, 6, 7, 0] rfl)

def fX4_lookAt (i : Nat) (a1 : Int32) (a2 : Int32) (a3 : Int32) (m : Mm) : Option (Int32 × Mm) := (fX4_lookAt_10 i FL a1 a2 a3 0 6 0 m)
set_option maxHeartbeats 4000000 in
set_option maxRecDepth 100000 in
theorem tX4_lookAt {l : Launch} {D : va_G} {cA : Nat → ClassId} {A : Nat → Nat} (hI : InjA cN A) {i : Nat} (hi : i < 2) {a1 : Int32} {a2 : Int32} {a3 : Int32} {m m' : Mm} {r : Int32} (h : fX4_lookAt i a1 a2 a3 m = some (r, m')) : Met0 l yX4_lookAt cX4_lookAt 8 none { frames := 1, cells := 0, slots := 0, locals := 40 } cLay cN D cA A [.ref (A (mp i 0)), .int a1, .int a2, .int a3] m none m' := by
  refine met0_of (by decide) (Nat.le_of_ble_eq_true rfl) hI ?_
  intro p e s m0 below meth c ls X hinit hP hS hl
  generalize ([.ref (A (mp i 0)), .int a1, .int a2, .int a3] : List Value).toArray = args at X ⊢
  have hl : lv_has ls 8 [(0, .ref (A (mp i 0))), (1, .int a1), (2, .int a2), (3, .int a3)] := hl
  have X : CX cLay cN D cA A p s m0 args meth c "BenchTowels$Men" cX4_lookAt 8 none := X
  have hx := X.1
  have hb := X.2.1
  have hml := X.2.2.1
  have hown := X.2.2.2.1
  have hts := X.2.2.2.2.1
  have hF := X.2.2.2.2.2.2.2.2.1
  rewrite [fX4_lookAt] at h
  refine lv_iconst (v := 0) hx hb dX4_lookAt_0 (by decide) ?_
  refine lv_istore (lv' := [(4, .int 0), (0, .ref (A (mp i 0))), (1, .int a1), (2, .int a2), (3, .int a3)]) hx hb dX4_lookAt_1 hl (by decide) rfl (fun ls hl => ?_)
  refine lv_bipush (v := 6) hx hb dX4_lookAt_3 (by decide) ?_
  refine lv_istore (lv' := [(5, .int 6), (4, .int 0), (0, .ref (A (mp i 0))), (1, .int a1), (2, .int a2), (3, .int a3)]) hx hb dX4_lookAt_5 hl (by decide) rfl (fun ls hl => ?_)
  refine lv_iconst (v := 0) hx hb dX4_lookAt_7 (by decide) ?_
  refine lv_istore (lv' := [(6, .int 0), (5, .int 6), (4, .int 0), (0, .ref (A (mp i 0))), (1, .int a1), (2, .int a2), (3, .int a3)]) hx hb dX4_lookAt_8 hl (by decide) rfl (fun ls hl => ?_)
  exact tX4_lookAt_10 hI hi   X FL a1 a2 a3 0 6 0 m _ _ _  h hP hS (lv_sub hl [3, 4, 5, 6, 2, 1, 0] rfl)

def fX4_look_28 (K21 : Int32 → Int32 → Mm → Option (Int32 × Mm)) (i : Nat) : Nat → Int32 → Int32 → Int32 → Mm → Option (Int32 × Mm)
  | 0, _, _, _, _ => none
  | n + 1, x1, x2, x3, m => (if (4 : Int32) < x3 then lt ((x2 : Int32) + 1) fun x2_10 => (K21 x1 x2_10 m) else bd (fX4_lookAt i x1 x2 x3 m) fun r_12 m_13 => lt ((x3 : Int32) + 1) fun x3_15 => (fX4_look_28 K21 i n x1 x2 x3_15 m_13))
set_option maxHeartbeats 4000000 in
set_option maxRecDepth 100000 in
theorem tX4_look_28 (hI : InjA cN A) {i : Nat} (hi : i < 2) {r : Int32} {m' : Mm} {K21 : Int32 → Int32 → Mm → Option (Int32 × Mm)} (hK21 : ∀ (x1 : Int32) (x2 : Int32) (m : Mm) (H : Heap) (locs : List Loc) (ls : Array Slot), K21 x1 x2 m = some (r, m') → va_P D vwCl (wsOf cLay cN cA A m) H → va_S (AW cN A) s.heap H locs → lv_has ls 4 [(0, .ref (A (mp i 0))), (1, .int x1), (2, .int x2)] → W p l e { frames := 2, cells := 0, slots := 0, locals := 67 } s m0 args below meth c H locs 0 0 (ZR below args s cLay cN D cA A none m') (F0 m0 21 ls [])) (X : CX cLay cN D cA A p s m0 args meth c "BenchTowels$Men" cX4_look 4 none) : ∀ (n : Nat) (x1 : Int32) (x2 : Int32) (x3 : Int32) (m : Mm) (H : Heap) (locs : List Loc) (ls : Array Slot), fX4_look_28 K21 i n x1 x2 x3 m = some (r, m') → va_P D vwCl (wsOf cLay cN cA A m) H → va_S (AW cN A) s.heap H locs → lv_has ls 4 [(0, .ref (A (mp i 0))), (1, .int x1), (2, .int x2), (3, .int x3)] → W p l e { frames := 2, cells := 0, slots := 0, locals := 67 } s m0 args below meth c H locs 0 0 (ZR below args s cLay cN D cA A none m') (F0 m0 28 ls []) := by
  have hx := X.1
  have hb := X.2.1
  have hml := X.2.2.1
  have hown := X.2.2.2.1
  have hts := X.2.2.2.2.1
  have hF := X.2.2.2.2.2.2.2.2.1
  intro n
  induction n with
  | zero =>
    intro x1 x2 x3 m H locs ls h hP hS hl
    exact absurd h (by rewrite [fX4_look_28]; exact fun q => by cases q)
  | succ n ih =>
    intro x1 x2 x3 m H locs ls h hP hS hl
    rewrite [fX4_look_28] at h
    refine lv_iload_n hx hb dX4_look_28 rfl (lv_at hl 3 rfl) ?_
    refine lv_iconst (v := 4) hx hb dX4_look_29 (by decide) ?_
    refine lv_icmp_gt (tgt := 46) hx hb dX4_look_30 (by decide) (fun c_9 => ?_) (fun c_9 => ?_)
    · have h := ifp c_9 h
      obtain ⟨x2_10, ex_11, h⟩ := lt_some h
      refine lv_iinc (v := x2_10) (lv' := [(2, .int x2_10), (0, .ref (A (mp i 0))), (1, .int x1), (3, .int x3)]) hx hb dX4_look_46 hl (k := 2) rfl (by rw [ex_11]; rfl) (by decide) rfl (fun ls hl => ?_)
      refine lv_goto (tgt := 21) hx hb dX4_look_49 (by decide) ?_
      exact hK21 x1 x2_10 m _ _ _  h hP hS (lv_sub hl [1, 2, 0] rfl)
    · have h := ifn c_9 h
      refine lv_aload_n hx hb dX4_look_33 rfl (lv_at hl 0 rfl) ?_
      refine lv_iload_n hx hb dX4_look_34 rfl (lv_at hl 1 rfl) ?_
      refine lv_iload_n hx hb dX4_look_35 rfl (lv_at hl 2 rfl) ?_
      refine lv_iload_n hx hb dX4_look_36 rfl (lv_at hl 3 rfl) ?_
      obtain ⟨r_12, m_13, hc_14, h⟩ := bd_some h
      refine c_V (rest := []) X hP hS (tX4_lookAt hI hi hc_14) (lt_m hi (by decide)) (L_men hi _) rfl wt_4_168 wt_4_170 ws_2_5 wt_1_3 wt_4_171 ⟨rfl, hy_X4_lookAt⟩ ⟨rfl, rfl⟩ ⟨Nat.le_of_ble_eq_true rfl, Nat.le_of_ble_eq_true rfl⟩ rfl hl.1 rfl (Nat.le_of_ble_eq_true rfl) dX4_look_37 rfl (fun H locs hP hS => ?_)
      obtain ⟨x3_15, ex_16, h⟩ := lt_some h
      refine lv_iinc (v := x3_15) (lv' := [(3, .int x3_15), (0, .ref (A (mp i 0))), (1, .int x1), (2, .int x2)]) hx hb dX4_look_40 hl (k := 3) rfl (by rw [ex_16]; rfl) (by decide) rfl (fun ls hl => ?_)
      refine lv_goto (tgt := 28) hx hb dX4_look_43 (by decide) ?_
      exact ih x1 x2 x3_15 m_13 _ _ _  h hP hS (lv_sub hl [1, 2, 3, 0] rfl)

def fX4_look_21 (K13 : Int32 → Mm → Option (Int32 × Mm)) (i : Nat) : Nat → Int32 → Int32 → Mm → Option (Int32 × Mm)
  | 0, _, _, _ => none
  | n + 1, x1, x2, m => (if (4 : Int32) < x2 then lt ((x1 : Int32) + 1) fun x1_7 => (K13 x1_7 m) else (fX4_look_28 (fun x1 x2 m => fX4_look_21 K13 i n x1 x2 m) i FL x1 x2 1 m))
set_option maxHeartbeats 4000000 in
set_option maxRecDepth 100000 in
theorem tX4_look_21 (hI : InjA cN A) {i : Nat} (hi : i < 2) {r : Int32} {m' : Mm} {K13 : Int32 → Mm → Option (Int32 × Mm)} (hK13 : ∀ (x1 : Int32) (m : Mm) (H : Heap) (locs : List Loc) (ls : Array Slot), K13 x1 m = some (r, m') → va_P D vwCl (wsOf cLay cN cA A m) H → va_S (AW cN A) s.heap H locs → lv_has ls 4 [(0, .ref (A (mp i 0))), (1, .int x1)] → W p l e { frames := 2, cells := 0, slots := 0, locals := 67 } s m0 args below meth c H locs 0 0 (ZR below args s cLay cN D cA A none m') (F0 m0 13 ls [])) (X : CX cLay cN D cA A p s m0 args meth c "BenchTowels$Men" cX4_look 4 none) : ∀ (n : Nat) (x1 : Int32) (x2 : Int32) (m : Mm) (H : Heap) (locs : List Loc) (ls : Array Slot), fX4_look_21 K13 i n x1 x2 m = some (r, m') → va_P D vwCl (wsOf cLay cN cA A m) H → va_S (AW cN A) s.heap H locs → lv_has ls 4 [(0, .ref (A (mp i 0))), (1, .int x1), (2, .int x2)] → W p l e { frames := 2, cells := 0, slots := 0, locals := 67 } s m0 args below meth c H locs 0 0 (ZR below args s cLay cN D cA A none m') (F0 m0 21 ls []) := by
  have hx := X.1
  have hb := X.2.1
  have hml := X.2.2.1
  have hown := X.2.2.2.1
  have hts := X.2.2.2.2.1
  have hF := X.2.2.2.2.2.2.2.2.1
  intro n
  induction n with
  | zero =>
    intro x1 x2 m H locs ls h hP hS hl
    exact absurd h (by rewrite [fX4_look_21]; exact fun q => by cases q)
  | succ n ih =>
    intro x1 x2 m H locs ls h hP hS hl
    rewrite [fX4_look_21] at h
    refine lv_iload_n hx hb dX4_look_21 rfl (lv_at hl 2 rfl) ?_
    refine lv_iconst (v := 4) hx hb dX4_look_22 (by decide) ?_
    refine lv_icmp_gt (tgt := 52) hx hb dX4_look_23 (by decide) (fun c_6 => ?_) (fun c_6 => ?_)
    · have h := ifp c_6 h
      obtain ⟨x1_7, ex_8, h⟩ := lt_some h
      refine lv_iinc (v := x1_7) (lv' := [(1, .int x1_7), (0, .ref (A (mp i 0))), (2, .int x2)]) hx hb dX4_look_52 hl (k := 1) rfl (by rw [ex_8]; rfl) (by decide) rfl (fun ls hl => ?_)
      refine lv_goto (tgt := 13) hx hb dX4_look_55 (by decide) ?_
      exact hK13 x1_7 m _ _ _  h hP hS (lv_sub hl [1, 0] rfl)
    · have h := ifn c_6 h
      refine lv_iconst (v := 1) hx hb dX4_look_26 (by decide) ?_
      refine lv_istore_n (lv' := [(3, .int 1), (0, .ref (A (mp i 0))), (1, .int x1), (2, .int x2)]) hx hb dX4_look_27 rfl hl (by decide) rfl (fun ls hl => ?_)
      exact tX4_look_28 hI hi  (fun x1 x2 m H locs ls  h hP hS hl => ih x1 x2 m H locs ls  h hP hS hl) X FL x1 x2 1 m _ _ _  h hP hS (lv_sub hl [1, 2, 3, 0] rfl)

def fX4_look_13 (i : Nat) : Nat → Int32 → Mm → Option (Int32 × Mm)
  | 0, _, _ => none
  | n + 1, x1, m => (if (16 : Int32) ≤ x1 then some (0, m) else (fX4_look_21 (fun x1 m => fX4_look_13 i n x1 m) i FL x1 1 m))
set_option maxHeartbeats 4000000 in
set_option maxRecDepth 100000 in
theorem tX4_look_13 (hI : InjA cN A) {i : Nat} (hi : i < 2) {r : Int32} {m' : Mm} (X : CX cLay cN D cA A p s m0 args meth c "BenchTowels$Men" cX4_look 4 none) : ∀ (n : Nat) (x1 : Int32) (m : Mm) (H : Heap) (locs : List Loc) (ls : Array Slot), fX4_look_13 i n x1 m = some (r, m') → va_P D vwCl (wsOf cLay cN cA A m) H → va_S (AW cN A) s.heap H locs → lv_has ls 4 [(0, .ref (A (mp i 0))), (1, .int x1)] → W p l e { frames := 2, cells := 0, slots := 0, locals := 67 } s m0 args below meth c H locs 0 0 (ZR below args s cLay cN D cA A none m') (F0 m0 13 ls []) := by
  have hx := X.1
  have hb := X.2.1
  have hml := X.2.2.1
  have hown := X.2.2.2.1
  have hts := X.2.2.2.2.1
  have hF := X.2.2.2.2.2.2.2.2.1
  intro n
  induction n with
  | zero =>
    intro x1 m H locs ls h hP hS hl
    exact absurd h (by rewrite [fX4_look_13]; exact fun q => by cases q)
  | succ n ih =>
    intro x1 m H locs ls h hP hS hl
    rewrite [fX4_look_13] at h
    refine lv_iload_n hx hb dX4_look_13 rfl (lv_at hl 1 rfl) ?_
    refine lv_bipush (v := 16) hx hb dX4_look_14 (by decide) ?_
    refine lv_icmp_ge (tgt := 58) hx hb dX4_look_16 (by decide) (fun c_5 => ?_) (fun c_5 => ?_)
    · have h := ifp c_5 h
      exact r_vret X hP hS dX4_look_58 h
    · have h := ifn c_5 h
      refine lv_iconst (v := 1) hx hb dX4_look_19 (by decide) ?_
      refine lv_istore_n (lv' := [(2, .int 1), (0, .ref (A (mp i 0))), (1, .int x1)]) hx hb dX4_look_20 rfl hl (by decide) rfl (fun ls hl => ?_)
      exact tX4_look_21 hI hi  (fun x1 m H locs ls  h hP hS hl => ih x1 m H locs ls  h hP hS hl) X FL x1 1 m _ _ _  h hP hS (lv_sub hl [1, 2, 0] rfl)

def fX4_look (i : Nat) (m : Mm) : Option (Int32 × Mm) := lt (up m (mp i 0) 4 0) fun m_1 => lt (up m_1 (mp i 0) 8 6) fun m_3 => (fX4_look_13 i FL 0 m_3)
set_option maxHeartbeats 4000000 in
set_option maxRecDepth 100000 in
theorem tX4_look {l : Launch} {D : va_G} {cA : Nat → ClassId} {A : Nat → Nat} (hI : InjA cN A) {i : Nat} (hi : i < 2) {m m' : Mm} {r : Int32} (h : fX4_look i m = some (r, m')) : Met0 l yX4_look cX4_look 4 none { frames := 2, cells := 0, slots := 0, locals := 67 } cLay cN D cA A [.ref (A (mp i 0))] m none m' := by
  refine met0_of (by decide) (Nat.le_of_ble_eq_true rfl) hI ?_
  intro p e s m0 below meth c ls X hinit hP hS hl
  generalize ([.ref (A (mp i 0))] : List Value).toArray = args at X ⊢
  have hl : lv_has ls 4 [(0, .ref (A (mp i 0)))] := hl
  have X : CX cLay cN D cA A p s m0 args meth c "BenchTowels$Men" cX4_look 4 none := X
  have hx := X.1
  have hb := X.2.1
  have hml := X.2.2.1
  have hown := X.2.2.2.1
  have hts := X.2.2.2.2.1
  have hF := X.2.2.2.2.2.2.2.2.1
  rewrite [fX4_look] at h
  refine lv_aload_n hx hb dX4_look_0 rfl (lv_at hl 0 rfl) ?_
  refine lv_iconst (v := 0) hx hb dX4_look_1 (by decide) ?_
  obtain ⟨m_1, em_2, h⟩ := lt_some h
  refine r_put kc_4 4 X hP hS (lt_m hi (by decide)) (L_men hi _) (L_men hi _) (by decide) wt_1_89 rfl (by decide +kernel) (Nat.le_of_ble_eq_true rfl) dX4_look_2 em_2 (fun H locs hP hS => ?_)
  refine lv_aload_n hx hb dX4_look_5 rfl (lv_at hl 0 rfl) ?_
  refine lv_bipush (v := 6) hx hb dX4_look_6 (by decide) ?_
  obtain ⟨m_3, em_4, h⟩ := lt_some h
  refine r_put kc_4 8 X hP hS (lt_m hi (by decide)) (L_men hi _) (L_men hi _) (by decide) wt_1_97 rfl (by decide +kernel) (Nat.le_of_ble_eq_true rfl) dX4_look_8 em_4 (fun H locs hP hS => ?_)
  refine lv_iconst (v := 0) hx hb dX4_look_11 (by decide) ?_
  refine lv_istore_n (lv' := [(1, .int 0), (0, .ref (A (mp i 0)))]) hx hb dX4_look_12 rfl hl (by decide) rfl (fun ls hl => ?_)
  exact tX4_look_13 hI hi   X FL 0 m_3 _ _ _  h hP hS (lv_sub hl [1, 0] rfl)

def fX3_lay_17  : Nat → Int32 → Int32 → Mm → Option (Int32 × Mm)
  | 0, _, _, _ => none
  | n + 1, x1, x4, m => (if (40 : Int32) ≤ x4 then some (0, m) else gx x1 4 (gx x4 40 (lt (up m (56 + (ix x1)) (ix x4) 0) fun m_10 => lt ((x4 : Int32) + 1) fun x4_12 => (fX3_lay_17 n x1 x4_12 m_10))))
set_option maxHeartbeats 4000000 in
set_option maxRecDepth 100000 in
theorem tX3_lay_17 (hI : InjA cN A)  {r : Int32} {m' : Mm} (X : CX cLay cN D cA A p s m0 args meth c "BenchTowels$Host" cX3_lay 5 none) : ∀ (n : Nat) (x1 : Int32) (x4 : Int32) (m : Mm) (H : Heap) (locs : List Loc) (ls : Array Slot), fX3_lay_17 n x1 x4 m = some (r, m') → va_P D vwCl (wsOf cLay cN cA A m) H → va_S (AW cN A) s.heap H locs → lv_has ls 5 [(0, .ref (A 52)), (1, .int x1), (4, .int x4)] → W p l e { frames := 0, cells := 0, slots := 0, locals := 0 } s m0 args below meth c H locs 0 0 (ZR below args s cLay cN D cA A none m') (F0 m0 17 ls []) := by
  have hx := X.1
  have hb := X.2.1
  have hml := X.2.2.1
  have hown := X.2.2.2.1
  have hts := X.2.2.2.2.1
  have hF := X.2.2.2.2.2.2.2.2.1
  intro n
  induction n with
  | zero =>
    intro x1 x4 m H locs ls h hP hS hl
    exact absurd h (by rewrite [fX3_lay_17]; exact fun q => by cases q)
  | succ n ih =>
    intro x1 x4 m H locs ls h hP hS hl
    rewrite [fX3_lay_17] at h
    refine lv_iload hx hb dX3_lay_17 (lv_at hl 2 rfl) ?_
    refine lv_bipush (v := 40) hx hb dX3_lay_19 (by decide) ?_
    refine lv_icmp_ge (tgt := 40) hx hb dX3_lay_21 (by decide) (fun c_6 => ?_) (fun c_6 => ?_)
    · have h := ifp c_6 h
      exact r_vret X hP hS dX3_lay_40 h
    · have h := ifn c_6 h
      refine lv_aload_n hx hb dX3_lay_24 rfl (lv_at hl 0 rfl) ?_
      refine r_get kc_3 3 X hP (by decide) (L_host _) (by decide) rfl wt_2_49 dX3_lay_25 ?_
      refine lv_iload_n hx hb dX3_lay_28 rfl (lv_at hl 1 rfl) ?_
      obtain ⟨hin_7, h⟩ := gx_some h
      have q_8 := vp_lt hin_7
      refine r_row (q' := (56 + (ix x1))) X hP (by decide) (Lq_55 _) hin_7 rfl q_8 rfl dX3_lay_29 ?_
      refine lv_iload hx hb dX3_lay_30 (lv_at hl 2 rfl) ?_
      refine lv_iconst (v := 0) hx hb dX3_lay_32 (by decide) ?_
      obtain ⟨hin_9, h⟩ := gx_some h
      obtain ⟨m_10, em_11, h⟩ := lt_some h
      refine r_iast X hP hS (lt_add56 (j := (ix x1)) q_8) (La_item (j := (ix x1)) q_8) hin_9 rfl dX3_lay_33 em_11 (fun H locs hP hS => ?_)
      obtain ⟨x4_12, ex_13, h⟩ := lt_some h
      refine lv_iinc (v := x4_12) (lv' := [(4, .int x4_12), (0, .ref (A 52)), (1, .int x1)]) hx hb dX3_lay_34 hl (k := 2) rfl (by rw [ex_13]; rfl) (by decide) rfl (fun ls hl => ?_)
      refine lv_goto (tgt := 17) hx hb dX3_lay_37 (by decide) ?_
      exact ih x1 x4_12 m_10 _ _ _  h hP hS (lv_sub hl [1, 2, 0] rfl)

def fX3_lay (a1 : Int32) (a2 : Int32) (a3 : Int32) (m : Mm) : Option (Int32 × Mm) := gx a1 4 (lt (up m 53 (ix a1) a2) fun m_2 => lt (up m_2 54 (ix a1) a3) fun m_4 => (fX3_lay_17  FL a1 0 m_4))
set_option maxHeartbeats 4000000 in
set_option maxRecDepth 100000 in
theorem tX3_lay {l : Launch} {D : va_G} {cA : Nat → ClassId} {A : Nat → Nat} (hI : InjA cN A) {a1 : Int32} {a2 : Int32} {a3 : Int32} {m m' : Mm} {r : Int32} (h : fX3_lay a1 a2 a3 m = some (r, m')) : Met0 l yX3_lay cX3_lay 5 none { frames := 0, cells := 0, slots := 0, locals := 0 } cLay cN D cA A [.ref (A 52), .int a1, .int a2, .int a3] m none m' := by
  refine met0_of (by decide) (Nat.le_of_ble_eq_true rfl) hI ?_
  intro p e s m0 below meth c ls X hinit hP hS hl
  generalize ([.ref (A 52), .int a1, .int a2, .int a3] : List Value).toArray = args at X ⊢
  have hl : lv_has ls 5 [(0, .ref (A 52)), (1, .int a1), (2, .int a2), (3, .int a3)] := hl
  have X : CX cLay cN D cA A p s m0 args meth c "BenchTowels$Host" cX3_lay 5 none := X
  have hx := X.1
  have hb := X.2.1
  have hml := X.2.2.1
  have hown := X.2.2.2.1
  have hts := X.2.2.2.2.1
  have hF := X.2.2.2.2.2.2.2.2.1
  rewrite [fX3_lay] at h
  refine lv_aload_n hx hb dX3_lay_0 rfl (lv_at hl 0 rfl) ?_
  refine r_get kc_3 1 X hP (by decide) (L_host _) (by decide) rfl wt_2_46 dX3_lay_1 ?_
  refine lv_iload_n hx hb dX3_lay_4 rfl (lv_at hl 1 rfl) ?_
  refine lv_iload_n hx hb dX3_lay_5 rfl (lv_at hl 2 rfl) ?_
  obtain ⟨hin_1, h⟩ := gx_some h
  obtain ⟨m_2, em_3, h⟩ := lt_some h
  refine r_iast X hP hS (by decide) La_53 hin_1 rfl dX3_lay_6 em_3 (fun H locs hP hS => ?_)
  refine lv_aload_n hx hb dX3_lay_7 rfl (lv_at hl 0 rfl) ?_
  refine r_get kc_3 2 X hP (by decide) (L_host _) (by decide) rfl wt_2_48 dX3_lay_8 ?_
  refine lv_iload_n hx hb dX3_lay_11 rfl (lv_at hl 1 rfl) ?_
  refine lv_iload_n hx hb dX3_lay_12 rfl (lv_at hl 3 rfl) ?_
  obtain ⟨m_4, em_5, h⟩ := lt_some h
  refine r_iast X hP hS (by decide) La_54 hin_1 rfl dX3_lay_13 em_5 (fun H locs hP hS => ?_)
  refine lv_iconst (v := 0) hx hb dX3_lay_14 (by decide) ?_
  refine lv_istore (lv' := [(4, .int 0), (0, .ref (A 52)), (1, .int a1), (2, .int a2), (3, .int a3)]) hx hb dX3_lay_15 hl (by decide) rfl (fun ls hl => ?_)
  exact tX3_lay_17 hI    X FL a1 0 m_4 _ _ _  h hP hS (lv_sub hl [1, 2, 0] rfl)

def fX3_refusal (a1 : Int32) (a2 : Int32) (m : Mm) : Option (Int32 × Mm) := gx a1 4 ((if (m 53 (ix a1)) = (-1) then some ((-11), m) else (if (m 53 (ix a1)) = a2 then some (0, m) else some ((-13), m))))
set_option maxHeartbeats 4000000 in
set_option maxRecDepth 100000 in
theorem tX3_refusal {l : Launch} {D : va_G} {cA : Nat → ClassId} {A : Nat → Nat} (hI : InjA cN A) {a1 : Int32} {a2 : Int32} {m m' : Mm} {r : Int32} (h : fX3_refusal a1 a2 m = some (r, m')) : Met0 l yX3_refusal cX3_refusal 3 (some .int) { frames := 0, cells := 0, slots := 0, locals := 0 } cLay cN D cA A [.ref (A 52), .int a1, .int a2] m (some (.int r)) m' := by
  refine met0_of (by decide) (Nat.le_of_ble_eq_true rfl) hI ?_
  intro p e s m0 below meth c ls X hinit hP hS hl
  generalize ([.ref (A 52), .int a1, .int a2] : List Value).toArray = args at X ⊢
  have hl : lv_has ls 3 [(0, .ref (A 52)), (1, .int a1), (2, .int a2)] := hl
  have X : CX cLay cN D cA A p s m0 args meth c "BenchTowels$Host" cX3_refusal 3 (some .int) := X
  have hx := X.1
  have hb := X.2.1
  have hml := X.2.2.1
  have hown := X.2.2.2.1
  have hts := X.2.2.2.2.1
  have hF := X.2.2.2.2.2.2.2.2.1
  rewrite [fX3_refusal] at h
  refine lv_aload_n hx hb dX3_refusal_0 rfl (lv_at hl 0 rfl) ?_
  refine r_get kc_3 1 X hP (by decide) (L_host _) (by decide) rfl wt_2_46 dX3_refusal_1 ?_
  refine lv_iload_n hx hb dX3_refusal_4 rfl (lv_at hl 1 rfl) ?_
  obtain ⟨hin_1, h⟩ := gx_some h
  refine r_iald X hP (by decide) (La_53 _) hin_1 rfl dX3_refusal_5 ?_
  refine lv_iconst (v := (-1)) hx hb dX3_refusal_6 (by decide) ?_
  refine lv_icmp_ne (tgt := 13) hx hb dX3_refusal_7 (by decide) (fun c_2 => ?_) (fun c_2 => ?_)
  · have h := ifn c_2 h
    refine lv_aload_n hx hb dX3_refusal_13 rfl (lv_at hl 0 rfl) ?_
    refine r_get kc_3 1 X hP (by decide) (L_host _) (by decide) rfl wt_2_46 dX3_refusal_14 ?_
    refine lv_iload_n hx hb dX3_refusal_17 rfl (lv_at hl 1 rfl) ?_
    refine r_iald X hP (by decide) (La_53 _) hin_1 rfl dX3_refusal_18 ?_
    refine lv_iload_n hx hb dX3_refusal_19 rfl (lv_at hl 2 rfl) ?_
    refine lv_icmp_ne (tgt := 27) hx hb dX3_refusal_20 (by decide) (fun c_3 => ?_) (fun c_3 => ?_)
    · have h := ifn c_3 h
      refine lv_bipush (v := (-13)) hx hb dX3_refusal_27 (by decide) ?_
      exact r_iret X hP hS dX3_refusal_29 h
    · have h := ifp c_3 h
      refine lv_iconst (v := 0) hx hb dX3_refusal_23 (by decide) ?_
      refine lv_goto (tgt := 29) hx hb dX3_refusal_24 (by decide) ?_
      exact r_iret X hP hS dX3_refusal_29 h
  · have h := ifp c_2 h
    refine lv_bipush (v := (-11)) hx hb dX3_refusal_10 (by decide) ?_
    exact r_iret X hP hS dX3_refusal_12 h

def fX3_hasItem (a1 : Int32) (a2 : Int32) (m : Mm) : Option (Int32 × Mm) := (if a2 < 0 then some (0, m) else gx a1 4 ((if ((m 54 (ix a1)) : Int32) ≤ a2 then some (0, m) else some (1, m))))
set_option maxHeartbeats 4000000 in
set_option maxRecDepth 100000 in
theorem tX3_hasItem {l : Launch} {D : va_G} {cA : Nat → ClassId} {A : Nat → Nat} (hI : InjA cN A) {a1 : Int32} {a2 : Int32} {m m' : Mm} {r : Int32} (h : fX3_hasItem a1 a2 m = some (r, m')) : Met0 l yX3_hasItem cX3_hasItem 3 (some .boolean) { frames := 0, cells := 0, slots := 0, locals := 0 } cLay cN D cA A [.ref (A 52), .int a1, .int a2] m (some (.int r)) m' := by
  refine met0_of (by decide) (Nat.le_of_ble_eq_true rfl) hI ?_
  intro p e s m0 below meth c ls X hinit hP hS hl
  generalize ([.ref (A 52), .int a1, .int a2] : List Value).toArray = args at X ⊢
  have hl : lv_has ls 3 [(0, .ref (A 52)), (1, .int a1), (2, .int a2)] := hl
  have X : CX cLay cN D cA A p s m0 args meth c "BenchTowels$Host" cX3_hasItem 3 (some .boolean) := X
  have hx := X.1
  have hb := X.2.1
  have hml := X.2.2.1
  have hown := X.2.2.2.1
  have hts := X.2.2.2.2.1
  have hF := X.2.2.2.2.2.2.2.2.1
  rewrite [fX3_hasItem] at h
  refine lv_iload_n hx hb dX3_hasItem_0 rfl (lv_at hl 2 rfl) ?_
  refine lv_if_lt (tgt := 18) hx hb dX3_hasItem_1 (by decide) (fun c_1 => ?_) (fun c_1 => ?_)
  · have h := ifp c_1 h
    refine lv_iconst (v := 0) hx hb dX3_hasItem_18 (by decide) ?_
    exact r_zret X (Or.inl rfl) hP hS dX3_hasItem_19 h
  · have h := ifn c_1 h
    refine lv_iload_n hx hb dX3_hasItem_4 rfl (lv_at hl 2 rfl) ?_
    refine lv_aload_n hx hb dX3_hasItem_5 rfl (lv_at hl 0 rfl) ?_
    refine r_get kc_3 2 X hP (by decide) (L_host _) (by decide) rfl wt_2_48 dX3_hasItem_6 ?_
    refine lv_iload_n hx hb dX3_hasItem_9 rfl (lv_at hl 1 rfl) ?_
    obtain ⟨hin_2, h⟩ := gx_some h
    refine r_iald X hP (by decide) (La_54 _) hin_2 rfl dX3_hasItem_10 ?_
    refine lv_icmp_ge (tgt := 18) hx hb dX3_hasItem_11 (by decide) (fun c_3 => ?_) (fun c_3 => ?_)
    · have h := ifp c_3 h
      refine lv_iconst (v := 0) hx hb dX3_hasItem_18 (by decide) ?_
      exact r_zret X (Or.inl rfl) hP hS dX3_hasItem_19 h
    · have h := ifn c_3 h
      refine lv_iconst (v := 1) hx hb dX3_hasItem_14 (by decide) ?_
      refine lv_goto (tgt := 19) hx hb dX3_hasItem_15 (by decide) ?_
      exact r_zret X (Or.inr rfl) hP hS dX3_hasItem_19 h

def fX3_narrowed (a1 : Int32) (a2 : Int32) (m : Mm) : Option (Int32 × Mm) := (if a1 = 0 then some ((Int8.toInt32 (Int32.toInt8 a2)), m) else (if a1 = 1 then some ((Int16.toInt32 (Int32.toInt16 a2)), m) else (if a1 = 4 then (if a2 = 0 then some (0, m) else some (1, m)) else some (a2, m))))
set_option maxHeartbeats 4000000 in
set_option maxRecDepth 100000 in
theorem tX3_narrowed {l : Launch} {D : va_G} {cA : Nat → ClassId} {A : Nat → Nat} (hI : InjA cN A) {a1 : Int32} {a2 : Int32} {m m' : Mm} {r : Int32} (h : fX3_narrowed a1 a2 m = some (r, m')) : Met0 l yX3_narrowed cX3_narrowed 3 (some .int) { frames := 0, cells := 0, slots := 0, locals := 0 } cLay cN D cA A [.ref (A 52), .int a1, .int a2] m (some (.int r)) m' := by
  refine met0_of (by decide) (Nat.le_of_ble_eq_true rfl) hI ?_
  intro p e s m0 below meth c ls X hinit hP hS hl
  generalize ([.ref (A 52), .int a1, .int a2] : List Value).toArray = args at X ⊢
  have hl : lv_has ls 3 [(0, .ref (A 52)), (1, .int a1), (2, .int a2)] := hl
  have X : CX cLay cN D cA A p s m0 args meth c "BenchTowels$Host" cX3_narrowed 3 (some .int) := X
  have hx := X.1
  have hb := X.2.1
  have hml := X.2.2.1
  have hown := X.2.2.2.1
  have hts := X.2.2.2.2.1
  have hF := X.2.2.2.2.2.2.2.2.1
  rewrite [fX3_narrowed] at h
  refine lv_iload_n hx hb dX3_narrowed_0 rfl (lv_at hl 1 rfl) ?_
  refine lv_if_ne (tgt := 7) hx hb dX3_narrowed_1 (by decide) (fun c_1 => ?_) (fun c_1 => ?_)
  · have h := ifn c_1 h
    refine lv_iload_n hx hb dX3_narrowed_7 rfl (lv_at hl 1 rfl) ?_
    refine lv_iconst (v := 1) hx hb dX3_narrowed_8 (by decide) ?_
    refine lv_icmp_ne (tgt := 15) hx hb dX3_narrowed_9 (by decide) (fun c_2 => ?_) (fun c_2 => ?_)
    · have h := ifn c_2 h
      refine lv_iload_n hx hb dX3_narrowed_15 rfl (lv_at hl 1 rfl) ?_
      refine lv_iconst (v := 4) hx hb dX3_narrowed_16 (by decide) ?_
      refine lv_icmp_ne (tgt := 30) hx hb dX3_narrowed_17 (by decide) (fun c_3 => ?_) (fun c_3 => ?_)
      · have h := ifn c_3 h
        refine lv_iload_n hx hb dX3_narrowed_30 rfl (lv_at hl 2 rfl) ?_
        exact r_iret X hP hS dX3_narrowed_31 h
      · have h := ifp c_3 h
        refine lv_iload_n hx hb dX3_narrowed_20 rfl (lv_at hl 2 rfl) ?_
        refine lv_if_eq (tgt := 28) hx hb dX3_narrowed_21 (by decide) (fun c_4 => ?_) (fun c_4 => ?_)
        · have h := ifp c_4 h
          refine lv_iconst (v := 0) hx hb dX3_narrowed_28 (by decide) ?_
          exact r_iret X hP hS dX3_narrowed_29 h
        · have h := ifn c_4 h
          refine lv_iconst (v := 1) hx hb dX3_narrowed_24 (by decide) ?_
          refine lv_goto (tgt := 29) hx hb dX3_narrowed_25 (by decide) ?_
          exact r_iret X hP hS dX3_narrowed_29 h
    · have h := ifp c_2 h
      refine lv_iload_n hx hb dX3_narrowed_12 rfl (lv_at hl 2 rfl) ?_
      refine lv_i2s hx hb dX3_narrowed_13 rfl ?_
      exact r_iret X hP hS dX3_narrowed_14 h
  · have h := ifp c_1 h
    refine lv_iload_n hx hb dX3_narrowed_4 rfl (lv_at hl 2 rfl) ?_
    refine lv_i2b hx hb dX3_narrowed_5 rfl ?_
    exact r_iret X hP hS dX3_narrowed_6 h

def fX3_putSet (a1 : Int32) (a2 : Int32) (m : Mm) : Option (Int32 × Mm) := gx a1 4 (lt (up m 60 (ix a1) 0) fun m_2 => lt (up m_2 61 (ix a1) a2) fun m_4 => some (0, m_4))
set_option maxHeartbeats 4000000 in
set_option maxRecDepth 100000 in
theorem tX3_putSet {l : Launch} {D : va_G} {cA : Nat → ClassId} {A : Nat → Nat} (hI : InjA cN A) {a1 : Int32} {a2 : Int32} {m m' : Mm} {r : Int32} (h : fX3_putSet a1 a2 m = some (r, m')) : Met0 l yX3_putSet cX3_putSet 3 none { frames := 0, cells := 0, slots := 0, locals := 0 } cLay cN D cA A [.ref (A 52), .int a1, .int a2] m none m' := by
  refine met0_of (by decide) (Nat.le_of_ble_eq_true rfl) hI ?_
  intro p e s m0 below meth c ls X hinit hP hS hl
  generalize ([.ref (A 52), .int a1, .int a2] : List Value).toArray = args at X ⊢
  have hl : lv_has ls 3 [(0, .ref (A 52)), (1, .int a1), (2, .int a2)] := hl
  have X : CX cLay cN D cA A p s m0 args meth c "BenchTowels$Host" cX3_putSet 3 none := X
  have hx := X.1
  have hb := X.2.1
  have hml := X.2.2.1
  have hown := X.2.2.2.1
  have hts := X.2.2.2.2.1
  have hF := X.2.2.2.2.2.2.2.2.1
  rewrite [fX3_putSet] at h
  refine lv_aload_n hx hb dX3_putSet_0 rfl (lv_at hl 0 rfl) ?_
  refine r_get kc_3 4 X hP (by decide) (L_host _) (by decide) rfl wt_2_51 dX3_putSet_1 ?_
  refine lv_iload_n hx hb dX3_putSet_4 rfl (lv_at hl 1 rfl) ?_
  refine lv_iconst (v := 0) hx hb dX3_putSet_5 (by decide) ?_
  obtain ⟨hin_1, h⟩ := gx_some h
  obtain ⟨m_2, em_3, h⟩ := lt_some h
  refine r_iast X hP hS (by decide) La_60 hin_1 rfl dX3_putSet_6 em_3 (fun H locs hP hS => ?_)
  refine lv_aload_n hx hb dX3_putSet_7 rfl (lv_at hl 0 rfl) ?_
  refine r_get kc_3 5 X hP (by decide) (L_host _) (by decide) rfl wt_2_53 dX3_putSet_8 ?_
  refine lv_iload_n hx hb dX3_putSet_11 rfl (lv_at hl 1 rfl) ?_
  refine lv_iload_n hx hb dX3_putSet_12 rfl (lv_at hl 2 rfl) ?_
  obtain ⟨m_4, em_5, h⟩ := lt_some h
  refine r_iast X hP hS (by decide) La_61 hin_1 rfl dX3_putSet_13 em_5 (fun H locs hP hS => ?_)
  exact r_vret X hP hS dX3_putSet_14 h

def fX3_putRow_20  (x1 : Int32) (x2 : Int32) (s0 : Int32) (s1 : Int32) (m : Mm) : Option (Int32 × Mm) := gx s1 4 (lt (up m 60 (ix s1) s0) fun m_4 => gx x2 4 (gx x1 4 (lt (up m_4 61 (ix x1) (m_4 53 (ix x2))) fun m_8 => lt (up m_8 62 (ix x1) (m_8 54 (ix x2))) fun m_10 => some (0, m_10))))
set_option maxHeartbeats 4000000 in
set_option maxRecDepth 100000 in
theorem tX3_putRow_20 (hI : InjA cN A)  {r : Int32} {m' : Mm} (X : CX cLay cN D cA A p s m0 args meth c "BenchTowels$Host" cX3_putRow 3 none) : ∀ (x1 : Int32) (x2 : Int32) (s0 : Int32) (s1 : Int32) (m : Mm) (H : Heap) (locs : List Loc) (ls : Array Slot), fX3_putRow_20 x1 x2 s0 s1 m = some (r, m') → va_P D vwCl (wsOf cLay cN cA A m) H → va_S (AW cN A) s.heap H locs → lv_has ls 3 [(0, .ref (A 52)), (1, .int x1), (2, .int x2)] → W p l e { frames := 0, cells := 0, slots := 0, locals := 0 } s m0 args below meth c H locs 0 0 (ZR below args s cLay cN D cA A none m') (F0 m0 20 ls [.int s0, .int s1, .ref (A 60)]) := by
  have hx := X.1
  have hb := X.2.1
  have hml := X.2.2.1
  have hown := X.2.2.2.1
  have hts := X.2.2.2.2.1
  have hF := X.2.2.2.2.2.2.2.2.1
  intro x1 x2 s0 s1 m H locs ls h hP hS hl
  rewrite [fX3_putRow_20] at h
  obtain ⟨hin_3, h⟩ := gx_some h
  obtain ⟨m_4, em_5, h⟩ := lt_some h
  refine r_iast X hP hS (by decide) La_60 hin_3 rfl dX3_putRow_20 em_5 (fun H locs hP hS => ?_)
  refine lv_aload_n hx hb dX3_putRow_21 rfl (lv_at hl 0 rfl) ?_
  refine r_get kc_3 5 X hP (by decide) (L_host _) (by decide) rfl wt_2_53 dX3_putRow_22 ?_
  refine lv_iload_n hx hb dX3_putRow_25 rfl (lv_at hl 1 rfl) ?_
  refine lv_aload_n hx hb dX3_putRow_26 rfl (lv_at hl 0 rfl) ?_
  refine r_get kc_3 1 X hP (by decide) (L_host _) (by decide) rfl wt_2_46 dX3_putRow_27 ?_
  refine lv_iload_n hx hb dX3_putRow_30 rfl (lv_at hl 2 rfl) ?_
  obtain ⟨hin_6, h⟩ := gx_some h
  refine r_iald X hP (by decide) (La_53 _) hin_6 rfl dX3_putRow_31 ?_
  obtain ⟨hin_7, h⟩ := gx_some h
  obtain ⟨m_8, em_9, h⟩ := lt_some h
  refine r_iast X hP hS (by decide) La_61 hin_7 rfl dX3_putRow_32 em_9 (fun H locs hP hS => ?_)
  refine lv_aload_n hx hb dX3_putRow_33 rfl (lv_at hl 0 rfl) ?_
  refine r_get kc_3 6 X hP (by decide) (L_host _) (by decide) rfl wt_2_55 dX3_putRow_34 ?_
  refine lv_iload_n hx hb dX3_putRow_37 rfl (lv_at hl 1 rfl) ?_
  refine lv_aload_n hx hb dX3_putRow_38 rfl (lv_at hl 0 rfl) ?_
  refine r_get kc_3 2 X hP (by decide) (L_host _) (by decide) rfl wt_2_48 dX3_putRow_39 ?_
  refine lv_iload_n hx hb dX3_putRow_42 rfl (lv_at hl 2 rfl) ?_
  refine r_iald X hP (by decide) (La_54 _) hin_6 rfl dX3_putRow_43 ?_
  obtain ⟨m_10, em_11, h⟩ := lt_some h
  refine r_iast X hP hS (by decide) La_62 hin_7 rfl dX3_putRow_44 em_11 (fun H locs hP hS => ?_)
  exact r_vret X hP hS dX3_putRow_45 h

def fX3_putRow (a1 : Int32) (a2 : Int32) (m : Mm) : Option (Int32 × Mm) := gx a2 4 ((if (m 53 (ix a2)) = (-1) then (fX3_putRow_20  a1 a2 2 a1 m) else (fX3_putRow_20  a1 a2 1 a1 m)))
set_option maxHeartbeats 4000000 in
set_option maxRecDepth 100000 in
theorem tX3_putRow {l : Launch} {D : va_G} {cA : Nat → ClassId} {A : Nat → Nat} (hI : InjA cN A) {a1 : Int32} {a2 : Int32} {m m' : Mm} {r : Int32} (h : fX3_putRow a1 a2 m = some (r, m')) : Met0 l yX3_putRow cX3_putRow 3 none { frames := 0, cells := 0, slots := 0, locals := 0 } cLay cN D cA A [.ref (A 52), .int a1, .int a2] m none m' := by
  refine met0_of (by decide) (Nat.le_of_ble_eq_true rfl) hI ?_
  intro p e s m0 below meth c ls X hinit hP hS hl
  generalize ([.ref (A 52), .int a1, .int a2] : List Value).toArray = args at X ⊢
  have hl : lv_has ls 3 [(0, .ref (A 52)), (1, .int a1), (2, .int a2)] := hl
  have X : CX cLay cN D cA A p s m0 args meth c "BenchTowels$Host" cX3_putRow 3 none := X
  have hx := X.1
  have hb := X.2.1
  have hml := X.2.2.1
  have hown := X.2.2.2.1
  have hts := X.2.2.2.2.1
  have hF := X.2.2.2.2.2.2.2.2.1
  rewrite [fX3_putRow] at h
  refine lv_aload_n hx hb dX3_putRow_0 rfl (lv_at hl 0 rfl) ?_
  refine r_get kc_3 4 X hP (by decide) (L_host _) (by decide) rfl wt_2_51 dX3_putRow_1 ?_
  refine lv_iload_n hx hb dX3_putRow_4 rfl (lv_at hl 1 rfl) ?_
  refine lv_aload_n hx hb dX3_putRow_5 rfl (lv_at hl 0 rfl) ?_
  refine r_get kc_3 1 X hP (by decide) (L_host _) (by decide) rfl wt_2_46 dX3_putRow_6 ?_
  refine lv_iload_n hx hb dX3_putRow_9 rfl (lv_at hl 2 rfl) ?_
  obtain ⟨hin_1, h⟩ := gx_some h
  refine r_iald X hP (by decide) (La_53 _) hin_1 rfl dX3_putRow_10 ?_
  refine lv_iconst (v := (-1)) hx hb dX3_putRow_11 (by decide) ?_
  refine lv_icmp_ne (tgt := 19) hx hb dX3_putRow_12 (by decide) (fun c_2 => ?_) (fun c_2 => ?_)
  · have h := ifn c_2 h
    refine lv_iconst (v := 1) hx hb dX3_putRow_19 (by decide) ?_
    exact tX3_putRow_20 hI    X a1 a2 1 a1 m _ _ _  h hP hS (lv_sub hl [0, 1, 2] rfl)
  · have h := ifp c_2 h
    refine lv_iconst (v := 2) hx hb dX3_putRow_15 (by decide) ?_
    refine lv_goto (tgt := 20) hx hb dX3_putRow_16 (by decide) ?_
    exact tX3_putRow_20 hI    X a1 a2 2 a1 m _ _ _  h hP hS (lv_sub hl [0, 1, 2] rfl)

def fX3_hold (j : Nat) (a1 : Int32) (m : Mm) : Option (Nat × Mm) := lt (up m 52 7 a1) fun m_1 => gx a1 6 (lt (up m_1 52 8 (m_1 (gp j 4) (ix a1))) fun m_4 => lt (up m_4 52 9 0) fun m_6 => gx (m_6 (gp j 2) (ix a1)) 6 (some ((ix (m_6 (gp j 2) (ix a1))), m_6)))
set_option maxHeartbeats 4000000 in
set_option maxRecDepth 100000 in
theorem tX3_hold {l : Launch} {D : va_G} {cA : Nat → ClassId} {A : Nat → Nat} (hI : InjA cN A) {j : Nat} (hj : j < 8) {a1 : Int32} {m m' : Mm} {r : Nat} (h : fX3_hold j a1 m = some (r, m')) : Met0 l yX3_hold cX3_hold 3 (some (.object "BenchTowels$Plain")) { frames := 0, cells := 0, slots := 0, locals := 0 } cLay cN D cA A [.ref (A 52), .int a1, .ref (A (gp j 0))] m (some (.ref (A (kp r)))) m' := by
  refine met0_of (by decide) (Nat.le_of_ble_eq_true rfl) hI ?_
  intro p e s m0 below meth c ls X hinit hP hS hl
  generalize ([.ref (A 52), .int a1, .ref (A (gp j 0))] : List Value).toArray = args at X ⊢
  have hl : lv_has ls 3 [(0, .ref (A 52)), (1, .int a1), (2, .ref (A (gp j 0)))] := hl
  have X : CX cLay cN D cA A p s m0 args meth c "BenchTowels$Host" cX3_hold 3 (some (.object "BenchTowels$Plain")) := X
  have hx := X.1
  have hb := X.2.1
  have hml := X.2.2.1
  have hown := X.2.2.2.1
  have hts := X.2.2.2.2.1
  have hF := X.2.2.2.2.2.2.2.2.1
  rewrite [fX3_hold] at h
  refine lv_aload_n hx hb dX3_hold_0 rfl (lv_at hl 0 rfl) ?_
  refine lv_iload_n hx hb dX3_hold_1 rfl (lv_at hl 1 rfl) ?_
  obtain ⟨m_1, em_2, h⟩ := lt_some h
  refine r_put kc_3 7 X hP hS (by decide) (L_host _) (L_host _) (by decide) wt_2_59 rfl (by decide +kernel) (Nat.le_of_ble_eq_true rfl) dX3_hold_2 em_2 (fun H locs hP hS => ?_)
  refine lv_aload_n hx hb dX3_hold_5 rfl (lv_at hl 0 rfl) ?_
  refine lv_aload_n hx hb dX3_hold_6 rfl (lv_at hl 2 rfl) ?_
  refine r_get kc_1 2 X hP (lt_g hj (by decide)) (L_gym hj _) (by decide) rfl wt_1_174 dX3_hold_7 ?_
  refine lv_iconst (v := 2) hx hb dX3_hold_10 (by decide) ?_
  refine r_row (q' := (gp j 4)) X hP (lt_g hj (by decide)) ((Lq_g_1 hj) _) (vpc (by decide)) ixc_2 (by decide) rfl dX3_hold_11 ?_
  refine lv_iload_n hx hb dX3_hold_12 rfl (lv_at hl 1 rfl) ?_
  obtain ⟨hin_3, h⟩ := gx_some h
  refine r_iald X hP (lt_g2 (j := 2) hj (by decide)) ((La_g_row (j := 2) hj (by decide)) _) hin_3 rfl dX3_hold_13 ?_
  obtain ⟨m_4, em_5, h⟩ := lt_some h
  refine r_put kc_3 8 X hP hS (by decide) (L_host _) (L_host _) (by decide) wt_2_62 rfl (by decide +kernel) (Nat.le_of_ble_eq_true rfl) dX3_hold_14 em_5 (fun H locs hP hS => ?_)
  refine lv_aload_n hx hb dX3_hold_17 rfl (lv_at hl 0 rfl) ?_
  refine lv_iconst (v := 0) hx hb dX3_hold_18 (by decide) ?_
  obtain ⟨m_6, em_7, h⟩ := lt_some h
  refine r_putz kc_3 9 X (Or.inl rfl) hP hS (by decide) (L_host _) (L_host _) (by decide) wt_2_63 rfl (by decide +kernel) (Nat.le_of_ble_eq_true rfl) dX3_hold_19 em_7 (fun H locs hP hS => ?_)
  refine lv_aload_n hx hb dX3_hold_22 rfl (lv_at hl 0 rfl) ?_
  refine r_get kc_3 0 X hP (by decide) (L_host _) (by decide) rfl wt_2_45 dX3_hold_23 ?_
  refine lv_aload_n hx hb dX3_hold_26 rfl (lv_at hl 2 rfl) ?_
  refine r_get kc_1 2 X hP (lt_g hj (by decide)) (L_gym hj _) (by decide) rfl wt_1_174 dX3_hold_27 ?_
  refine lv_iconst (v := 0) hx hb dX3_hold_30 (by decide) ?_
  refine r_row (q' := (gp j 2)) X hP (lt_g hj (by decide)) ((Lq_g_1 hj) _) (vpc (by decide)) ixc_0 (by decide) rfl dX3_hold_31 ?_
  refine lv_iload_n hx hb dX3_hold_32 rfl (lv_at hl 1 rfl) ?_
  refine r_iald X hP (lt_g2 (j := 0) hj (by decide)) ((La_g_row (j := 0) hj (by decide)) _) hin_3 rfl dX3_hold_33 ?_
  obtain ⟨hin_8, h⟩ := gx_some h
  have q_9 := vp_lt hin_8
  refine r_rowq 3 (q' := (kp (ix (m_6 (gp j 2) (ix a1))))) rfl X hP (by decide) (Lq_2 _) hin_8 rfl q_9 rfl dX3_hold_34 ?_
  exact r_aretk X hP hS dX3_hold_35 h

def fX1_follow (i : Nat) (j : Nat) (m : Mm) : Option (Int32 × Mm) := lt (upA m (gp i 6) (cpy (m (gp j 6)) (m (gp i 6)) 6)) fun m_2 => lt (upA m_2 (gp i 8) (cpy (m_2 (gp j 8)) (m_2 (gp i 8)) 6)) fun m_5 => lt (upA m_5 (gp i 10) (cpy (m_5 (gp j 10)) (m_5 (gp i 10)) 3)) fun m_8 => lt (up m_8 (gp i 0) 6 (m_8 (gp j 0) 6)) fun m_10 => lt (up m_10 (gp i 0) 8 (m_10 (gp j 0) 8)) fun m_12 => some (0, m_12)
set_option maxHeartbeats 4000000 in
set_option maxRecDepth 100000 in
theorem tX1_follow {l : Launch} {D : va_G} {cA : Nat → ClassId} {A : Nat → Nat} (hI : InjA cN A) {i : Nat} (hi : i < 8) {j : Nat} (hj : j < 8) {m m' : Mm} {r : Int32} (h : fX1_follow i j m = some (r, m')) : Met0 l yX1_follow cX1_follow 2 none { frames := 1, cells := 0, slots := 0, locals := 60 } cLay cN D cA A [.ref (A (gp i 0)), .ref (A (gp j 0))] m none m' := by
  refine met0_of (by decide) (Nat.le_of_ble_eq_true rfl) hI ?_
  intro p e s m0 below meth c ls X hinit hP hS hl
  generalize ([.ref (A (gp i 0)), .ref (A (gp j 0))] : List Value).toArray = args at X ⊢
  have hl : lv_has ls 2 [(0, .ref (A (gp i 0))), (1, .ref (A (gp j 0)))] := hl
  have X : CX cLay cN D cA A p s m0 args meth c "BenchTowels$Gym" cX1_follow 2 none := X
  have hx := X.1
  have hb := X.2.1
  have hml := X.2.2.1
  have hown := X.2.2.2.1
  have hts := X.2.2.2.2.1
  have hF := X.2.2.2.2.2.2.2.2.1
  rewrite [fX1_follow] at h
  refine lv_aload_n hx hb dX1_follow_0 rfl (lv_at hl 1 rfl) ?_
  refine r_get kc_1 2 X hP (lt_g hj (by decide)) (L_gym hj _) (by decide) rfl wt_1_172 dX1_follow_1 ?_
  refine lv_iconst (v := 4) hx hb dX1_follow_4 (by decide) ?_
  refine r_row (q' := (gp j 6)) X hP (lt_g hj (by decide)) ((Lq_g_1 hj) _) (vpc (by decide)) ixc_4 (by decide) rfl dX1_follow_5 ?_
  refine lv_iconst (v := 0) hx hb dX1_follow_6 (by decide) ?_
  refine lv_aload_n hx hb dX1_follow_7 rfl (lv_at hl 0 rfl) ?_
  refine r_get kc_1 2 X hP (lt_g hi (by decide)) (L_gym hi _) (by decide) rfl wt_1_172 dX1_follow_8 ?_
  refine lv_iconst (v := 4) hx hb dX1_follow_11 (by decide) ?_
  refine r_row (q' := (gp i 6)) X hP (lt_g hi (by decide)) ((Lq_g_1 hi) _) (vpc (by decide)) ixc_4 (by decide) rfl dX1_follow_12 ?_
  refine lv_iconst (v := 0) hx hb dX1_follow_13 (by decide) ?_
  refine lv_bipush (v := 6) hx hb dX1_follow_14 (by decide) ?_
  obtain ⟨m_2, em_3, h⟩ := lt_some h
  refine r_copy (rest := []) X hP hS hl.1 (lt_g2 (j := 4) hj (by decide)) (La_g_row (j := 4) hj (by decide)) (lt_g2 (j := 4) hi (by decide)) (La_g_row (j := 4) hi (by decide)) (gcc (n := 6) (by decide)) (Nat.le_of_ble_eq_true rfl) (Nat.le_of_ble_eq_true rfl) ixc_6 (Nat.le_of_ble_eq_true rfl) (Nat.le_of_ble_eq_true rfl) wt_4_6 dX1_follow_16 em_3 (fun H locs hP hS => ?_)
  refine lv_aload_n hx hb dX1_follow_19 rfl (lv_at hl 1 rfl) ?_
  refine r_get kc_1 4 X hP (lt_g hj (by decide)) (L_gym hj _) (by decide) rfl wt_1_178 dX1_follow_20 ?_
  refine lv_iconst (v := 0) hx hb dX1_follow_23 (by decide) ?_
  refine r_row (q' := (gp j 8)) X hP (lt_g hj (by decide)) ((Lq_g_7 hj) _) (vpc (by decide)) ixc_0 (by decide) rfl dX1_follow_24 ?_
  refine lv_iconst (v := 0) hx hb dX1_follow_25 (by decide) ?_
  refine lv_aload_n hx hb dX1_follow_26 rfl (lv_at hl 0 rfl) ?_
  refine r_get kc_1 4 X hP (lt_g hi (by decide)) (L_gym hi _) (by decide) rfl wt_1_178 dX1_follow_27 ?_
  refine lv_iconst (v := 0) hx hb dX1_follow_30 (by decide) ?_
  refine r_row (q' := (gp i 8)) X hP (lt_g hi (by decide)) ((Lq_g_7 hi) _) (vpc (by decide)) ixc_0 (by decide) rfl dX1_follow_31 ?_
  refine lv_iconst (v := 0) hx hb dX1_follow_32 (by decide) ?_
  refine lv_bipush (v := 6) hx hb dX1_follow_33 (by decide) ?_
  obtain ⟨m_5, em_6, h⟩ := lt_some h
  refine r_copy (rest := []) X hP hS hl.1 (lt_g8 (j := 0) hj (by decide)) (La_g_mrow (j := 0) hj (by decide)) (lt_g8 (j := 0) hi (by decide)) (La_g_mrow (j := 0) hi (by decide)) (gcc (n := 6) (by decide)) (Nat.le_of_ble_eq_true rfl) (Nat.le_of_ble_eq_true rfl) ixc_6 (Nat.le_of_ble_eq_true rfl) (Nat.le_of_ble_eq_true rfl) wt_4_6 dX1_follow_35 em_6 (fun H locs hP hS => ?_)
  refine lv_aload_n hx hb dX1_follow_38 rfl (lv_at hl 1 rfl) ?_
  refine r_get kc_1 5 X hP (lt_g hj (by decide)) (L_gym hj _) (by decide) rfl wt_1_180 dX1_follow_39 ?_
  refine lv_iconst (v := 0) hx hb dX1_follow_42 (by decide) ?_
  refine lv_aload_n hx hb dX1_follow_43 rfl (lv_at hl 0 rfl) ?_
  refine r_get kc_1 5 X hP (lt_g hi (by decide)) (L_gym hi _) (by decide) rfl wt_1_180 dX1_follow_44 ?_
  refine lv_iconst (v := 0) hx hb dX1_follow_47 (by decide) ?_
  refine lv_iconst (v := 3) hx hb dX1_follow_48 (by decide) ?_
  obtain ⟨m_8, em_9, h⟩ := lt_some h
  refine r_copy (rest := []) X hP hS hl.1 (lt_g hj (by decide)) (La_g_10 hj) (lt_g hi (by decide)) (La_g_10 hi) (gcc (n := 3) (by decide)) (Nat.le_of_ble_eq_true rfl) (Nat.le_of_ble_eq_true rfl) ixc_3 (Nat.le_of_ble_eq_true rfl) (Nat.le_of_ble_eq_true rfl) wt_4_6 dX1_follow_49 em_9 (fun H locs hP hS => ?_)
  refine lv_aload_n hx hb dX1_follow_52 rfl (lv_at hl 0 rfl) ?_
  refine lv_aload_n hx hb dX1_follow_53 rfl (lv_at hl 1 rfl) ?_
  refine r_get kc_1 6 X hP (lt_g hj (by decide)) (L_gym hj _) (by decide) rfl wt_1_184 dX1_follow_54 ?_
  obtain ⟨m_10, em_11, h⟩ := lt_some h
  refine r_put kc_1 6 X hP hS (lt_g hi (by decide)) (L_gym hi _) (L_gym hi _) (by decide) wt_1_184 rfl (by decide +kernel) (Nat.le_of_ble_eq_true rfl) dX1_follow_57 em_11 (fun H locs hP hS => ?_)
  refine lv_aload_n hx hb dX1_follow_60 rfl (lv_at hl 0 rfl) ?_
  refine lv_aload_n hx hb dX1_follow_61 rfl (lv_at hl 1 rfl) ?_
  refine r_get kc_1 8 X hP (lt_g hj (by decide)) (L_gym hj _) (by decide) rfl wt_1_188 dX1_follow_62 ?_
  obtain ⟨m_12, em_13, h⟩ := lt_some h
  refine r_put kc_1 8 X hP hS (lt_g hi (by decide)) (L_gym hi _) (L_gym hi _) (by decide) wt_1_188 rfl (by decide +kernel) (Nat.le_of_ble_eq_true rfl) dX1_follow_65 em_13 (fun H locs hP hS => ?_)
  exact r_vret X hP hS dX1_follow_68 h

def fX1_copy_2 (i : Nat) (j : Nat) : Nat → Int32 → Mm → Option (Int32 × Mm)
  | 0, _, _ => none
  | n + 1, x2, m => (if (4 : Int32) ≤ x2 then lt (up m (gp i 0) 3 (m (gp j 0) 3)) fun m_2 => lt (upA m_2 (gp i 9) (cpy (m_2 (gp j 9)) (m_2 (gp i 9)) 6)) fun m_5 => lt (up m_5 (gp i 0) 7 (m_5 (gp j 0) 7)) fun m_7 => lt (up m_7 (gp i 0) 9 (m_7 (gp j 0) 9)) fun m_9 => bd (fX1_follow i j m_9) fun r_11 m_12 => some (0, m_12) else gx x2 5 (lt (upA m (gp i (2 + (ix x2))) (cpy (m (gp j (2 + (ix x2)))) (m (gp i (2 + (ix x2)))) 6)) fun m_18 => lt ((x2 : Int32) + 1) fun x2_20 => (fX1_copy_2 i j n x2_20 m_18)))
set_option maxHeartbeats 4000000 in
set_option maxRecDepth 100000 in
theorem tX1_copy_2 (hI : InjA cN A) {i : Nat} (hi : i < 8) {j : Nat} (hj : j < 8) {r : Int32} {m' : Mm} (X : CX cLay cN D cA A p s m0 args meth c "BenchTowels$Gym" cX1_copy 3 none) : ∀ (n : Nat) (x2 : Int32) (m : Mm) (H : Heap) (locs : List Loc) (ls : Array Slot), fX1_copy_2 i j n x2 m = some (r, m') → va_P D vwCl (wsOf cLay cN cA A m) H → va_S (AW cN A) s.heap H locs → lv_has ls 3 [(0, .ref (A (gp i 0))), (1, .ref (A (gp j 0))), (2, .int x2)] → W p l e { frames := 2, cells := 0, slots := 0, locals := 81 } s m0 args below meth c H locs 0 0 (ZR below args s cLay cN D cA A none m') (F0 m0 2 ls []) := by
  have hx := X.1
  have hb := X.2.1
  have hml := X.2.2.1
  have hown := X.2.2.2.1
  have hts := X.2.2.2.2.1
  have hF := X.2.2.2.2.2.2.2.2.1
  intro n
  induction n with
  | zero =>
    intro x2 m H locs ls h hP hS hl
    exact absurd h (by rewrite [fX1_copy_2]; exact fun q => by cases q)
  | succ n ih =>
    intro x2 m H locs ls h hP hS hl
    rewrite [fX1_copy_2] at h
    refine lv_iload_n hx hb dX1_copy_2 rfl (lv_at hl 2 rfl) ?_
    refine lv_iconst (v := 4) hx hb dX1_copy_3 (by decide) ?_
    refine lv_icmp_ge (tgt := 32) hx hb dX1_copy_4 (by decide) (fun c_1 => ?_) (fun c_1 => ?_)
    · have h := ifp c_1 h
      refine lv_aload_n hx hb dX1_copy_32 rfl (lv_at hl 0 rfl) ?_
      refine lv_aload_n hx hb dX1_copy_33 rfl (lv_at hl 1 rfl) ?_
      refine r_get kc_1 3 X hP (lt_g hj (by decide)) (L_gym hj _) (by decide) rfl wt_1_175 dX1_copy_34 ?_
      obtain ⟨m_2, em_3, h⟩ := lt_some h
      refine r_put kc_1 3 X hP hS (lt_g hi (by decide)) (L_gym hi _) (L_gym hi _) (by decide) wt_1_175 rfl (by decide +kernel) (Nat.le_of_ble_eq_true rfl) dX1_copy_37 em_3 (fun H locs hP hS => ?_)
      refine lv_aload_n hx hb dX1_copy_40 rfl (lv_at hl 1 rfl) ?_
      refine r_get kc_1 4 X hP (lt_g hj (by decide)) (L_gym hj _) (by decide) rfl wt_1_178 dX1_copy_41 ?_
      refine lv_iconst (v := 1) hx hb dX1_copy_44 (by decide) ?_
      refine r_row (q' := (gp j 9)) X hP (lt_g hj (by decide)) ((Lq_g_7 hj) _) (vpc (by decide)) ixc_1 (by decide) rfl dX1_copy_45 ?_
      refine lv_iconst (v := 0) hx hb dX1_copy_46 (by decide) ?_
      refine lv_aload_n hx hb dX1_copy_47 rfl (lv_at hl 0 rfl) ?_
      refine r_get kc_1 4 X hP (lt_g hi (by decide)) (L_gym hi _) (by decide) rfl wt_1_178 dX1_copy_48 ?_
      refine lv_iconst (v := 1) hx hb dX1_copy_51 (by decide) ?_
      refine r_row (q' := (gp i 9)) X hP (lt_g hi (by decide)) ((Lq_g_7 hi) _) (vpc (by decide)) ixc_1 (by decide) rfl dX1_copy_52 ?_
      refine lv_iconst (v := 0) hx hb dX1_copy_53 (by decide) ?_
      refine lv_bipush (v := 6) hx hb dX1_copy_54 (by decide) ?_
      obtain ⟨m_5, em_6, h⟩ := lt_some h
      refine r_copy (rest := []) X hP hS hl.1 (lt_g8 (j := 1) hj (by decide)) (La_g_mrow (j := 1) hj (by decide)) (lt_g8 (j := 1) hi (by decide)) (La_g_mrow (j := 1) hi (by decide)) (gcc (n := 6) (by decide)) (Nat.le_of_ble_eq_true rfl) (Nat.le_of_ble_eq_true rfl) ixc_6 (Nat.le_of_ble_eq_true rfl) (Nat.le_of_ble_eq_true rfl) wt_4_6 dX1_copy_56 em_6 (fun H locs hP hS => ?_)
      refine lv_aload_n hx hb dX1_copy_59 rfl (lv_at hl 0 rfl) ?_
      refine lv_aload_n hx hb dX1_copy_60 rfl (lv_at hl 1 rfl) ?_
      refine r_get kc_1 7 X hP (lt_g hj (by decide)) (L_gym hj _) (by decide) rfl wt_1_185 dX1_copy_61 ?_
      obtain ⟨m_7, em_8, h⟩ := lt_some h
      refine r_put kc_1 7 X hP hS (lt_g hi (by decide)) (L_gym hi _) (L_gym hi _) (by decide) wt_1_185 rfl (by decide +kernel) (Nat.le_of_ble_eq_true rfl) dX1_copy_64 em_8 (fun H locs hP hS => ?_)
      refine lv_aload_n hx hb dX1_copy_67 rfl (lv_at hl 0 rfl) ?_
      refine lv_aload_n hx hb dX1_copy_68 rfl (lv_at hl 1 rfl) ?_
      refine r_get kc_1 9 X hP (lt_g hj (by decide)) (L_gym hj _) (by decide) rfl wt_1_190 dX1_copy_69 ?_
      obtain ⟨m_9, em_10, h⟩ := lt_some h
      refine r_put kc_1 9 X hP hS (lt_g hi (by decide)) (L_gym hi _) (L_gym hi _) (by decide) wt_1_190 rfl (by decide +kernel) (Nat.le_of_ble_eq_true rfl) dX1_copy_72 em_10 (fun H locs hP hS => ?_)
      refine lv_aload_n hx hb dX1_copy_75 rfl (lv_at hl 0 rfl) ?_
      refine lv_aload_n hx hb dX1_copy_76 rfl (lv_at hl 1 rfl) ?_
      obtain ⟨r_11, m_12, hc_13, h⟩ := bd_some h
      refine c_V (rest := []) X hP hS (tX1_follow hI hi hj hc_13) (lt_g hi (by decide)) (L_gym hi _) rfl wt_4_7 wt_4_8 wt_4_9 wt_1_10 wt_4_10 ⟨rfl, hy_X1_follow⟩ ⟨rfl, rfl⟩ ⟨Nat.le_of_ble_eq_true rfl, Nat.le_of_ble_eq_true rfl⟩ rfl hl.1 rfl (Nat.le_of_ble_eq_true rfl) dX1_copy_77 rfl (fun H locs hP hS => ?_)
      exact r_vret X hP hS dX1_copy_80 h
    · have h := ifn c_1 h
      refine lv_aload_n hx hb dX1_copy_7 rfl (lv_at hl 1 rfl) ?_
      refine r_get kc_1 2 X hP (lt_g hj (by decide)) (L_gym hj _) (by decide) rfl wt_1_172 dX1_copy_8 ?_
      refine lv_iload_n hx hb dX1_copy_11 rfl (lv_at hl 2 rfl) ?_
      obtain ⟨hin_14, h⟩ := gx_some h
      have q_15 := vp_lt hin_14
      refine r_row (q' := (gp j (2 + (ix x2)))) X hP (lt_g hj (by decide)) ((Lq_g_1 hj) _) hin_14 rfl q_15 rfl dX1_copy_12 ?_
      refine lv_iconst (v := 0) hx hb dX1_copy_13 (by decide) ?_
      refine lv_aload_n hx hb dX1_copy_14 rfl (lv_at hl 0 rfl) ?_
      refine r_get kc_1 2 X hP (lt_g hi (by decide)) (L_gym hi _) (by decide) rfl wt_1_172 dX1_copy_15 ?_
      refine lv_iload_n hx hb dX1_copy_18 rfl (lv_at hl 2 rfl) ?_
      have q_16 := vp_lt hin_14
      refine r_row (q' := (gp i (2 + (ix x2)))) X hP (lt_g hi (by decide)) ((Lq_g_1 hi) _) hin_14 rfl q_16 rfl dX1_copy_19 ?_
      refine lv_iconst (v := 0) hx hb dX1_copy_20 (by decide) ?_
      refine lv_bipush (v := 6) hx hb dX1_copy_21 (by decide) ?_
      obtain ⟨m_18, em_19, h⟩ := lt_some h
      refine r_copy (rest := []) X hP hS hl.1 (lt_g2 (j := (ix x2)) hj q_15) (La_g_row (j := (ix x2)) hj q_15) (lt_g2 (j := (ix x2)) hi q_16) (La_g_row (j := (ix x2)) hi q_16) (gcc (n := 6) (by decide)) (Nat.le_of_ble_eq_true rfl) (Nat.le_of_ble_eq_true rfl) ixc_6 (Nat.le_of_ble_eq_true rfl) (Nat.le_of_ble_eq_true rfl) wt_4_6 dX1_copy_23 em_19 (fun H locs hP hS => ?_)
      obtain ⟨x2_20, ex_21, h⟩ := lt_some h
      refine lv_iinc (v := x2_20) (lv' := [(2, .int x2_20), (0, .ref (A (gp i 0))), (1, .ref (A (gp j 0)))]) hx hb dX1_copy_26 hl (k := 2) rfl (by rw [ex_21]; rfl) (by decide) rfl (fun ls hl => ?_)
      refine lv_goto (tgt := 2) hx hb dX1_copy_29 (by decide) ?_
      exact ih x2_20 m_18 _ _ _  h hP hS (lv_sub hl [1, 2, 0] rfl)

def fX1_copy (i : Nat) (j : Nat) (m : Mm) : Option (Int32 × Mm) := (fX1_copy_2 i j FL 0 m)
set_option maxHeartbeats 4000000 in
set_option maxRecDepth 100000 in
theorem tX1_copy {l : Launch} {D : va_G} {cA : Nat → ClassId} {A : Nat → Nat} (hI : InjA cN A) {i : Nat} (hi : i < 8) {j : Nat} (hj : j < 8) {m m' : Mm} {r : Int32} (h : fX1_copy i j m = some (r, m')) : Met0 l yX1_copy cX1_copy 3 none { frames := 2, cells := 0, slots := 0, locals := 81 } cLay cN D cA A [.ref (A (gp i 0)), .ref (A (gp j 0))] m none m' := by
  refine met0_of (by decide) (Nat.le_of_ble_eq_true rfl) hI ?_
  intro p e s m0 below meth c ls X hinit hP hS hl
  generalize ([.ref (A (gp i 0)), .ref (A (gp j 0))] : List Value).toArray = args at X ⊢
  have hl : lv_has ls 3 [(0, .ref (A (gp i 0))), (1, .ref (A (gp j 0)))] := hl
  have X : CX cLay cN D cA A p s m0 args meth c "BenchTowels$Gym" cX1_copy 3 none := X
  have hx := X.1
  have hb := X.2.1
  have hml := X.2.2.1
  have hown := X.2.2.2.1
  have hts := X.2.2.2.2.1
  have hF := X.2.2.2.2.2.2.2.2.1
  rewrite [fX1_copy] at h
  refine lv_iconst (v := 0) hx hb dX1_copy_0 (by decide) ?_
  refine lv_istore_n (lv' := [(2, .int 0), (0, .ref (A (gp i 0))), (1, .ref (A (gp j 0)))]) hx hb dX1_copy_1 rfl hl (by decide) rfl (fun ls hl => ?_)
  exact tX1_copy_2 hI hi hj   X FL 0 m _ _ _  h hP hS (lv_sub hl [1, 2, 0] rfl)

def fX1_add (i : Nat) (a1 : Int32) (a2 : Int32) (a3 : Int32) (a4 : Int32) (m : Mm) : Option (Int32 × Mm) := lt (m (gp i 0) 3) fun x5_1 => lt (up m (gp i 0) 3 ((m (gp i 0) 3) + 1)) fun m_3 => gx x5_1 6 (lt (up m_3 (gp i 2) (ix x5_1) a1) fun m_6 => lt (up m_6 (gp i 3) (ix x5_1) a2) fun m_8 => lt (up m_8 (gp i 4) (ix x5_1) a3) fun m_10 => lt (up m_10 (gp i 5) (ix x5_1) a4) fun m_12 => lt (up m_12 (gp i 6) (ix x5_1) 3) fun m_14 => some (x5_1, m_14))
set_option maxHeartbeats 4000000 in
set_option maxRecDepth 100000 in
theorem tX1_add {l : Launch} {D : va_G} {cA : Nat → ClassId} {A : Nat → Nat} (hI : InjA cN A) {i : Nat} (hi : i < 8) {a1 : Int32} {a2 : Int32} {a3 : Int32} {a4 : Int32} {m m' : Mm} {r : Int32} (h : fX1_add i a1 a2 a3 a4 m = some (r, m')) : Met0 l yX1_add cX1_add 6 (some .int) { frames := 0, cells := 0, slots := 0, locals := 0 } cLay cN D cA A [.ref (A (gp i 0)), .int a1, .int a2, .int a3, .int a4] m (some (.int r)) m' := by
  refine met0_of (by decide) (Nat.le_of_ble_eq_true rfl) hI ?_
  intro p e s m0 below meth c ls X hinit hP hS hl
  generalize ([.ref (A (gp i 0)), .int a1, .int a2, .int a3, .int a4] : List Value).toArray = args at X ⊢
  have hl : lv_has ls 6 [(0, .ref (A (gp i 0))), (1, .int a1), (2, .int a2), (3, .int a3), (4, .int a4)] := hl
  have X : CX cLay cN D cA A p s m0 args meth c "BenchTowels$Gym" cX1_add 6 (some .int) := X
  have hx := X.1
  have hb := X.2.1
  have hml := X.2.2.1
  have hown := X.2.2.2.1
  have hts := X.2.2.2.2.1
  have hF := X.2.2.2.2.2.2.2.2.1
  rewrite [fX1_add] at h
  refine lv_aload_n hx hb dX1_add_0 rfl (lv_at hl 0 rfl) ?_
  refine r_get kc_1 3 X hP (lt_g hi (by decide)) (L_gym hi _) (by decide) rfl wt_1_175 dX1_add_1 ?_
  obtain ⟨x5_1, ex_2, h⟩ := lt_some h
  refine lv_ren ex_2 ?_
  refine lv_istore (lv' := [(5, .int x5_1), (0, .ref (A (gp i 0))), (1, .int a1), (2, .int a2), (3, .int a3), (4, .int a4)]) hx hb dX1_add_4 hl (by decide) rfl (fun ls hl => ?_)
  refine lv_aload_n hx hb dX1_add_6 rfl (lv_at hl 1 rfl) ?_
  refine lv_dup hx hb dX1_add_7 rfl ?_
  refine r_get kc_1 3 X hP (lt_g hi (by decide)) (L_gym hi _) (by decide) rfl wt_1_175 dX1_add_8 ?_
  refine lv_iconst (v := 1) hx hb dX1_add_11 (by decide) ?_
  refine lv_iadd hx hb dX1_add_12 ?_
  obtain ⟨m_3, em_4, h⟩ := lt_some h
  refine r_put kc_1 3 X hP hS (lt_g hi (by decide)) (L_gym hi _) (L_gym hi _) (by decide) wt_1_175 rfl (by decide +kernel) (Nat.le_of_ble_eq_true rfl) dX1_add_13 em_4 (fun H locs hP hS => ?_)
  refine lv_aload_n hx hb dX1_add_16 rfl (lv_at hl 1 rfl) ?_
  refine r_get kc_1 2 X hP (lt_g hi (by decide)) (L_gym hi _) (by decide) rfl wt_1_172 dX1_add_17 ?_
  refine lv_iconst (v := 0) hx hb dX1_add_20 (by decide) ?_
  refine r_row (q' := (gp i 2)) X hP (lt_g hi (by decide)) ((Lq_g_1 hi) _) (vpc (by decide)) ixc_0 (by decide) rfl dX1_add_21 ?_
  refine lv_iload hx hb dX1_add_22 (lv_at hl 0 rfl) ?_
  refine lv_iload_n hx hb dX1_add_24 rfl (lv_at hl 2 rfl) ?_
  obtain ⟨hin_5, h⟩ := gx_some h
  obtain ⟨m_6, em_7, h⟩ := lt_some h
  refine r_iast X hP hS (lt_g2 (j := 0) hi (by decide)) (La_g_row (j := 0) hi (by decide)) hin_5 rfl dX1_add_25 em_7 (fun H locs hP hS => ?_)
  refine lv_aload_n hx hb dX1_add_26 rfl (lv_at hl 1 rfl) ?_
  refine r_get kc_1 2 X hP (lt_g hi (by decide)) (L_gym hi _) (by decide) rfl wt_1_172 dX1_add_27 ?_
  refine lv_iconst (v := 1) hx hb dX1_add_30 (by decide) ?_
  refine r_row (q' := (gp i 3)) X hP (lt_g hi (by decide)) ((Lq_g_1 hi) _) (vpc (by decide)) ixc_1 (by decide) rfl dX1_add_31 ?_
  refine lv_iload hx hb dX1_add_32 (lv_at hl 0 rfl) ?_
  refine lv_iload_n hx hb dX1_add_34 rfl (lv_at hl 3 rfl) ?_
  obtain ⟨m_8, em_9, h⟩ := lt_some h
  refine r_iast X hP hS (lt_g2 (j := 1) hi (by decide)) (La_g_row (j := 1) hi (by decide)) hin_5 rfl dX1_add_35 em_9 (fun H locs hP hS => ?_)
  refine lv_aload_n hx hb dX1_add_36 rfl (lv_at hl 1 rfl) ?_
  refine r_get kc_1 2 X hP (lt_g hi (by decide)) (L_gym hi _) (by decide) rfl wt_1_172 dX1_add_37 ?_
  refine lv_iconst (v := 2) hx hb dX1_add_40 (by decide) ?_
  refine r_row (q' := (gp i 4)) X hP (lt_g hi (by decide)) ((Lq_g_1 hi) _) (vpc (by decide)) ixc_2 (by decide) rfl dX1_add_41 ?_
  refine lv_iload hx hb dX1_add_42 (lv_at hl 0 rfl) ?_
  refine lv_iload_n hx hb dX1_add_44 rfl (lv_at hl 4 rfl) ?_
  obtain ⟨m_10, em_11, h⟩ := lt_some h
  refine r_iast X hP hS (lt_g2 (j := 2) hi (by decide)) (La_g_row (j := 2) hi (by decide)) hin_5 rfl dX1_add_45 em_11 (fun H locs hP hS => ?_)
  refine lv_aload_n hx hb dX1_add_46 rfl (lv_at hl 1 rfl) ?_
  refine r_get kc_1 2 X hP (lt_g hi (by decide)) (L_gym hi _) (by decide) rfl wt_1_172 dX1_add_47 ?_
  refine lv_iconst (v := 3) hx hb dX1_add_50 (by decide) ?_
  refine r_row (q' := (gp i 5)) X hP (lt_g hi (by decide)) ((Lq_g_1 hi) _) (vpc (by decide)) ixc_3 (by decide) rfl dX1_add_51 ?_
  refine lv_iload hx hb dX1_add_52 (lv_at hl 0 rfl) ?_
  refine lv_iload hx hb dX1_add_54 (lv_at hl 5 rfl) ?_
  obtain ⟨m_12, em_13, h⟩ := lt_some h
  refine r_iast X hP hS (lt_g2 (j := 3) hi (by decide)) (La_g_row (j := 3) hi (by decide)) hin_5 rfl dX1_add_56 em_13 (fun H locs hP hS => ?_)
  refine lv_aload_n hx hb dX1_add_57 rfl (lv_at hl 1 rfl) ?_
  refine r_get kc_1 2 X hP (lt_g hi (by decide)) (L_gym hi _) (by decide) rfl wt_1_172 dX1_add_58 ?_
  refine lv_iconst (v := 4) hx hb dX1_add_61 (by decide) ?_
  refine r_row (q' := (gp i 6)) X hP (lt_g hi (by decide)) ((Lq_g_1 hi) _) (vpc (by decide)) ixc_4 (by decide) rfl dX1_add_62 ?_
  refine lv_iload hx hb dX1_add_63 (lv_at hl 0 rfl) ?_
  refine lv_iconst (v := 3) hx hb dX1_add_65 (by decide) ?_
  obtain ⟨m_14, em_15, h⟩ := lt_some h
  refine r_iast X hP hS (lt_g2 (j := 4) hi (by decide)) (La_g_row (j := 4) hi (by decide)) hin_5 rfl dX1_add_66 em_15 (fun H locs hP hS => ?_)
  refine lv_iload hx hb dX1_add_67 (lv_at hl 0 rfl) ?_
  exact r_iret X hP hS dX1_add_69 h

def fX1_alterSet (i : Nat) (a1 : Int32) (a2 : Int32) (a3 : Int32) (m : Mm) : Option (Int32 × Mm) := gx a2 5 (gx a1 6 (lt (m (gp i (2 + (ix a2))) (ix a1)) fun x4_4 => lt (up m (gp i (2 + (ix a2))) (ix a1) a3) fun m_7 => some (x4_4, m_7)))
set_option maxHeartbeats 4000000 in
set_option maxRecDepth 100000 in
theorem tX1_alterSet {l : Launch} {D : va_G} {cA : Nat → ClassId} {A : Nat → Nat} (hI : InjA cN A) {i : Nat} (hi : i < 8) {a1 : Int32} {a2 : Int32} {a3 : Int32} {m m' : Mm} {r : Int32} (h : fX1_alterSet i a1 a2 a3 m = some (r, m')) : Met0 l yX1_alterSet cX1_alterSet 5 (some .int) { frames := 0, cells := 0, slots := 0, locals := 0 } cLay cN D cA A [.ref (A (gp i 0)), .int a1, .int a2, .int a3] m (some (.int r)) m' := by
  refine met0_of (by decide) (Nat.le_of_ble_eq_true rfl) hI ?_
  intro p e s m0 below meth c ls X hinit hP hS hl
  generalize ([.ref (A (gp i 0)), .int a1, .int a2, .int a3] : List Value).toArray = args at X ⊢
  have hl : lv_has ls 5 [(0, .ref (A (gp i 0))), (1, .int a1), (2, .int a2), (3, .int a3)] := hl
  have X : CX cLay cN D cA A p s m0 args meth c "BenchTowels$Gym" cX1_alterSet 5 (some .int) := X
  have hx := X.1
  have hb := X.2.1
  have hml := X.2.2.1
  have hown := X.2.2.2.1
  have hts := X.2.2.2.2.1
  have hF := X.2.2.2.2.2.2.2.2.1
  rewrite [fX1_alterSet] at h
  refine lv_aload_n hx hb dX1_alterSet_0 rfl (lv_at hl 0 rfl) ?_
  refine r_get kc_1 2 X hP (lt_g hi (by decide)) (L_gym hi _) (by decide) rfl wt_1_172 dX1_alterSet_1 ?_
  refine lv_iload_n hx hb dX1_alterSet_4 rfl (lv_at hl 2 rfl) ?_
  obtain ⟨hin_1, h⟩ := gx_some h
  have q_2 := vp_lt hin_1
  refine r_row (q' := (gp i (2 + (ix a2)))) X hP (lt_g hi (by decide)) ((Lq_g_1 hi) _) hin_1 rfl q_2 rfl dX1_alterSet_5 ?_
  refine lv_iload_n hx hb dX1_alterSet_6 rfl (lv_at hl 1 rfl) ?_
  obtain ⟨hin_3, h⟩ := gx_some h
  refine r_iald X hP (lt_g2 (j := (ix a2)) hi q_2) ((La_g_row (j := (ix a2)) hi q_2) _) hin_3 rfl dX1_alterSet_7 ?_
  obtain ⟨x4_4, ex_5, h⟩ := lt_some h
  refine lv_ren ex_5 ?_
  refine lv_istore (lv' := [(4, .int x4_4), (0, .ref (A (gp i 0))), (1, .int a1), (2, .int a2), (3, .int a3)]) hx hb dX1_alterSet_8 hl (by decide) rfl (fun ls hl => ?_)
  refine lv_aload_n hx hb dX1_alterSet_10 rfl (lv_at hl 1 rfl) ?_
  refine r_get kc_1 2 X hP (lt_g hi (by decide)) (L_gym hi _) (by decide) rfl wt_1_172 dX1_alterSet_11 ?_
  refine lv_iload_n hx hb dX1_alterSet_14 rfl (lv_at hl 3 rfl) ?_
  have q_6 := vp_lt hin_1
  refine r_row (q' := (gp i (2 + (ix a2)))) X hP (lt_g hi (by decide)) ((Lq_g_1 hi) _) hin_1 rfl q_6 rfl dX1_alterSet_15 ?_
  refine lv_iload_n hx hb dX1_alterSet_16 rfl (lv_at hl 2 rfl) ?_
  refine lv_iload_n hx hb dX1_alterSet_17 rfl (lv_at hl 4 rfl) ?_
  obtain ⟨m_7, em_8, h⟩ := lt_some h
  refine r_iast X hP hS (lt_g2 (j := (ix a2)) hi q_6) (La_g_row (j := (ix a2)) hi q_6) hin_3 rfl dX1_alterSet_18 em_8 (fun H locs hP hS => ?_)
  refine lv_iload hx hb dX1_alterSet_19 (lv_at hl 0 rfl) ?_
  exact r_iret X hP hS dX1_alterSet_21 h

def fX1_beginAnew_57 (i : Nat) : Nat → Int32 → Mm → Option (Int32 × Mm)
  | 0, _, _ => none
  | n + 1, x1, m => (if (6 : Int32) ≤ x1 then some (0, m) else gx x1 6 (lt (up m (gp i 8) (ix x1) 0) fun m_9 => lt ((x1 : Int32) + 1) fun x1_11 => (fX1_beginAnew_57 i n x1_11 m_9)))
set_option maxHeartbeats 4000000 in
set_option maxRecDepth 100000 in
theorem tX1_beginAnew_57 (hI : InjA cN A) {i : Nat} (hi : i < 8) {r : Int32} {m' : Mm} (X : CX cLay cN D cA A p s m0 args meth c "BenchTowels$Gym" cX1_beginAnew 2 none) : ∀ (n : Nat) (x1 : Int32) (m : Mm) (H : Heap) (locs : List Loc) (ls : Array Slot), fX1_beginAnew_57 i n x1 m = some (r, m') → va_P D vwCl (wsOf cLay cN cA A m) H → va_S (AW cN A) s.heap H locs → lv_has ls 2 [(0, .ref (A (gp i 0))), (1, .int x1)] → W p l e { frames := 0, cells := 0, slots := 0, locals := 0 } s m0 args below meth c H locs 0 0 (ZR below args s cLay cN D cA A none m') (F0 m0 57 ls []) := by
  have hx := X.1
  have hb := X.2.1
  have hml := X.2.2.1
  have hown := X.2.2.2.1
  have hts := X.2.2.2.2.1
  have hF := X.2.2.2.2.2.2.2.2.1
  intro n
  induction n with
  | zero =>
    intro x1 m H locs ls h hP hS hl
    exact absurd h (by rewrite [fX1_beginAnew_57]; exact fun q => by cases q)
  | succ n ih =>
    intro x1 m H locs ls h hP hS hl
    rewrite [fX1_beginAnew_57] at h
    refine lv_iload_n hx hb dX1_beginAnew_57 rfl (lv_at hl 1 rfl) ?_
    refine lv_bipush (v := 6) hx hb dX1_beginAnew_58 (by decide) ?_
    refine lv_icmp_ge (tgt := 78) hx hb dX1_beginAnew_60 (by decide) (fun c_7 => ?_) (fun c_7 => ?_)
    · have h := ifp c_7 h
      exact r_vret X hP hS dX1_beginAnew_78 h
    · have h := ifn c_7 h
      refine lv_aload_n hx hb dX1_beginAnew_63 rfl (lv_at hl 0 rfl) ?_
      refine r_get kc_1 4 X hP (lt_g hi (by decide)) (L_gym hi _) (by decide) rfl wt_1_178 dX1_beginAnew_64 ?_
      refine lv_iconst (v := 0) hx hb dX1_beginAnew_67 (by decide) ?_
      refine r_row (q' := (gp i 8)) X hP (lt_g hi (by decide)) ((Lq_g_7 hi) _) (vpc (by decide)) ixc_0 (by decide) rfl dX1_beginAnew_68 ?_
      refine lv_iload_n hx hb dX1_beginAnew_69 rfl (lv_at hl 1 rfl) ?_
      refine lv_iconst (v := 0) hx hb dX1_beginAnew_70 (by decide) ?_
      obtain ⟨hin_8, h⟩ := gx_some h
      obtain ⟨m_9, em_10, h⟩ := lt_some h
      refine r_iast X hP hS (lt_g8 (j := 0) hi (by decide)) (La_g_mrow (j := 0) hi (by decide)) hin_8 rfl dX1_beginAnew_71 em_10 (fun H locs hP hS => ?_)
      obtain ⟨x1_11, ex_12, h⟩ := lt_some h
      refine lv_iinc (v := x1_11) (lv' := [(1, .int x1_11), (0, .ref (A (gp i 0)))]) hx hb dX1_beginAnew_72 hl (k := 1) rfl (by rw [ex_12]; rfl) (by decide) rfl (fun ls hl => ?_)
      refine lv_goto (tgt := 57) hx hb dX1_beginAnew_75 (by decide) ?_
      exact ih x1_11 m_9 _ _ _  h hP hS (lv_sub hl [1, 0] rfl)

def fX1_beginAnew_37 (i : Nat) : Nat → Int32 → Mm → Option (Int32 × Mm)
  | 0, _, _ => none
  | n + 1, x1, m => (if (3 : Int32) ≤ x1 then (fX1_beginAnew_57 i FL 0 m) else gx x1 3 (lt (up m (gp i 10) (ix x1) 0) fun m_14 => lt ((x1 : Int32) + 1) fun x1_16 => (fX1_beginAnew_37 i n x1_16 m_14)))
set_option maxHeartbeats 4000000 in
set_option maxRecDepth 100000 in
theorem tX1_beginAnew_37 (hI : InjA cN A) {i : Nat} (hi : i < 8) {r : Int32} {m' : Mm} (X : CX cLay cN D cA A p s m0 args meth c "BenchTowels$Gym" cX1_beginAnew 2 none) : ∀ (n : Nat) (x1 : Int32) (m : Mm) (H : Heap) (locs : List Loc) (ls : Array Slot), fX1_beginAnew_37 i n x1 m = some (r, m') → va_P D vwCl (wsOf cLay cN cA A m) H → va_S (AW cN A) s.heap H locs → lv_has ls 2 [(0, .ref (A (gp i 0))), (1, .int x1)] → W p l e { frames := 0, cells := 0, slots := 0, locals := 0 } s m0 args below meth c H locs 0 0 (ZR below args s cLay cN D cA A none m') (F0 m0 37 ls []) := by
  have hx := X.1
  have hb := X.2.1
  have hml := X.2.2.1
  have hown := X.2.2.2.1
  have hts := X.2.2.2.2.1
  have hF := X.2.2.2.2.2.2.2.2.1
  intro n
  induction n with
  | zero =>
    intro x1 m H locs ls h hP hS hl
    exact absurd h (by rewrite [fX1_beginAnew_37]; exact fun q => by cases q)
  | succ n ih =>
    intro x1 m H locs ls h hP hS hl
    rewrite [fX1_beginAnew_37] at h
    refine lv_iload_n hx hb dX1_beginAnew_37 rfl (lv_at hl 1 rfl) ?_
    refine lv_iconst (v := 3) hx hb dX1_beginAnew_38 (by decide) ?_
    refine lv_icmp_ge (tgt := 55) hx hb dX1_beginAnew_39 (by decide) (fun c_6 => ?_) (fun c_6 => ?_)
    · have h := ifp c_6 h
      refine lv_iconst (v := 0) hx hb dX1_beginAnew_55 (by decide) ?_
      refine lv_istore_n (lv' := [(1, .int 0), (0, .ref (A (gp i 0)))]) hx hb dX1_beginAnew_56 rfl hl (by decide) rfl (fun ls hl => ?_)
      exact tX1_beginAnew_57 hI hi   X FL 0 m _ _ _  h hP hS (lv_sub hl [1, 0] rfl)
    · have h := ifn c_6 h
      refine lv_aload_n hx hb dX1_beginAnew_42 rfl (lv_at hl 0 rfl) ?_
      refine r_get kc_1 5 X hP (lt_g hi (by decide)) (L_gym hi _) (by decide) rfl wt_1_180 dX1_beginAnew_43 ?_
      refine lv_iload_n hx hb dX1_beginAnew_46 rfl (lv_at hl 1 rfl) ?_
      refine lv_iconst (v := 0) hx hb dX1_beginAnew_47 (by decide) ?_
      obtain ⟨hin_13, h⟩ := gx_some h
      obtain ⟨m_14, em_15, h⟩ := lt_some h
      refine r_iast X hP hS (lt_g hi (by decide)) (La_g_10 hi) hin_13 rfl dX1_beginAnew_48 em_15 (fun H locs hP hS => ?_)
      obtain ⟨x1_16, ex_17, h⟩ := lt_some h
      refine lv_iinc (v := x1_16) (lv' := [(1, .int x1_16), (0, .ref (A (gp i 0)))]) hx hb dX1_beginAnew_49 hl (k := 1) rfl (by rw [ex_17]; rfl) (by decide) rfl (fun ls hl => ?_)
      refine lv_goto (tgt := 37) hx hb dX1_beginAnew_52 (by decide) ?_
      exact ih x1_16 m_14 _ _ _  h hP hS (lv_sub hl [1, 0] rfl)

def fX1_beginAnew_12 (i : Nat) : Nat → Int32 → Mm → Option (Int32 × Mm)
  | 0, _, _ => none
  | n + 1, x1, m => (if ((m (gp i 0) 3) : Int32) ≤ x1 then (fX1_beginAnew_37 i FL 0 m) else gx x1 6 (lt (up m (gp i 6) (ix x1) 3) fun m_19 => lt ((x1 : Int32) + 1) fun x1_21 => (fX1_beginAnew_12 i n x1_21 m_19)))
set_option maxHeartbeats 4000000 in
set_option maxRecDepth 100000 in
theorem tX1_beginAnew_12 (hI : InjA cN A) {i : Nat} (hi : i < 8) {r : Int32} {m' : Mm} (X : CX cLay cN D cA A p s m0 args meth c "BenchTowels$Gym" cX1_beginAnew 2 none) : ∀ (n : Nat) (x1 : Int32) (m : Mm) (H : Heap) (locs : List Loc) (ls : Array Slot), fX1_beginAnew_12 i n x1 m = some (r, m') → va_P D vwCl (wsOf cLay cN cA A m) H → va_S (AW cN A) s.heap H locs → lv_has ls 2 [(0, .ref (A (gp i 0))), (1, .int x1)] → W p l e { frames := 0, cells := 0, slots := 0, locals := 0 } s m0 args below meth c H locs 0 0 (ZR below args s cLay cN D cA A none m') (F0 m0 12 ls []) := by
  have hx := X.1
  have hb := X.2.1
  have hml := X.2.2.1
  have hown := X.2.2.2.1
  have hts := X.2.2.2.2.1
  have hF := X.2.2.2.2.2.2.2.2.1
  intro n
  induction n with
  | zero =>
    intro x1 m H locs ls h hP hS hl
    exact absurd h (by rewrite [fX1_beginAnew_12]; exact fun q => by cases q)
  | succ n ih =>
    intro x1 m H locs ls h hP hS hl
    rewrite [fX1_beginAnew_12] at h
    refine lv_iload_n hx hb dX1_beginAnew_12 rfl (lv_at hl 1 rfl) ?_
    refine lv_aload_n hx hb dX1_beginAnew_13 rfl (lv_at hl 0 rfl) ?_
    refine r_get kc_1 3 X hP (lt_g hi (by decide)) (L_gym hi _) (by decide) rfl wt_1_175 dX1_beginAnew_14 ?_
    refine lv_icmp_ge (tgt := 35) hx hb dX1_beginAnew_17 (by decide) (fun c_5 => ?_) (fun c_5 => ?_)
    · have h := ifp c_5 h
      refine lv_iconst (v := 0) hx hb dX1_beginAnew_35 (by decide) ?_
      refine lv_istore_n (lv' := [(1, .int 0), (0, .ref (A (gp i 0)))]) hx hb dX1_beginAnew_36 rfl hl (by decide) rfl (fun ls hl => ?_)
      exact tX1_beginAnew_37 hI hi   X FL 0 m _ _ _  h hP hS (lv_sub hl [1, 0] rfl)
    · have h := ifn c_5 h
      refine lv_aload_n hx hb dX1_beginAnew_20 rfl (lv_at hl 0 rfl) ?_
      refine r_get kc_1 2 X hP (lt_g hi (by decide)) (L_gym hi _) (by decide) rfl wt_1_172 dX1_beginAnew_21 ?_
      refine lv_iconst (v := 4) hx hb dX1_beginAnew_24 (by decide) ?_
      refine r_row (q' := (gp i 6)) X hP (lt_g hi (by decide)) ((Lq_g_1 hi) _) (vpc (by decide)) ixc_4 (by decide) rfl dX1_beginAnew_25 ?_
      refine lv_iload_n hx hb dX1_beginAnew_26 rfl (lv_at hl 1 rfl) ?_
      refine lv_iconst (v := 3) hx hb dX1_beginAnew_27 (by decide) ?_
      obtain ⟨hin_18, h⟩ := gx_some h
      obtain ⟨m_19, em_20, h⟩ := lt_some h
      refine r_iast X hP hS (lt_g2 (j := 4) hi (by decide)) (La_g_row (j := 4) hi (by decide)) hin_18 rfl dX1_beginAnew_28 em_20 (fun H locs hP hS => ?_)
      obtain ⟨x1_21, ex_22, h⟩ := lt_some h
      refine lv_iinc (v := x1_21) (lv' := [(1, .int x1_21), (0, .ref (A (gp i 0)))]) hx hb dX1_beginAnew_29 hl (k := 1) rfl (by rw [ex_22]; rfl) (by decide) rfl (fun ls hl => ?_)
      refine lv_goto (tgt := 12) hx hb dX1_beginAnew_32 (by decide) ?_
      exact ih x1_21 m_19 _ _ _  h hP hS (lv_sub hl [1, 0] rfl)

def fX1_beginAnew (i : Nat) (m : Mm) : Option (Int32 × Mm) := lt (up m (gp i 0) 6 0) fun m_1 => lt (up m_1 (gp i 0) 8 0) fun m_3 => (fX1_beginAnew_12 i FL 0 m_3)
set_option maxHeartbeats 4000000 in
set_option maxRecDepth 100000 in
theorem tX1_beginAnew {l : Launch} {D : va_G} {cA : Nat → ClassId} {A : Nat → Nat} (hI : InjA cN A) {i : Nat} (hi : i < 8) {m m' : Mm} {r : Int32} (h : fX1_beginAnew i m = some (r, m')) : Met0 l yX1_beginAnew cX1_beginAnew 2 none { frames := 0, cells := 0, slots := 0, locals := 0 } cLay cN D cA A [.ref (A (gp i 0))] m none m' := by
  refine met0_of (by decide) (Nat.le_of_ble_eq_true rfl) hI ?_
  intro p e s m0 below meth c ls X hinit hP hS hl
  generalize ([.ref (A (gp i 0))] : List Value).toArray = args at X ⊢
  have hl : lv_has ls 2 [(0, .ref (A (gp i 0)))] := hl
  have X : CX cLay cN D cA A p s m0 args meth c "BenchTowels$Gym" cX1_beginAnew 2 none := X
  have hx := X.1
  have hb := X.2.1
  have hml := X.2.2.1
  have hown := X.2.2.2.1
  have hts := X.2.2.2.2.1
  have hF := X.2.2.2.2.2.2.2.2.1
  rewrite [fX1_beginAnew] at h
  refine lv_aload_n hx hb dX1_beginAnew_0 rfl (lv_at hl 0 rfl) ?_
  refine lv_iconst (v := 0) hx hb dX1_beginAnew_1 (by decide) ?_
  obtain ⟨m_1, em_2, h⟩ := lt_some h
  refine r_put kc_1 6 X hP hS (lt_g hi (by decide)) (L_gym hi _) (L_gym hi _) (by decide) wt_1_184 rfl (by decide +kernel) (Nat.le_of_ble_eq_true rfl) dX1_beginAnew_2 em_2 (fun H locs hP hS => ?_)
  refine lv_aload_n hx hb dX1_beginAnew_5 rfl (lv_at hl 0 rfl) ?_
  refine lv_iconst (v := 0) hx hb dX1_beginAnew_6 (by decide) ?_
  obtain ⟨m_3, em_4, h⟩ := lt_some h
  refine r_put kc_1 8 X hP hS (lt_g hi (by decide)) (L_gym hi _) (L_gym hi _) (by decide) wt_1_188 rfl (by decide +kernel) (Nat.le_of_ble_eq_true rfl) dX1_beginAnew_7 em_4 (fun H locs hP hS => ?_)
  refine lv_iconst (v := 0) hx hb dX1_beginAnew_10 (by decide) ?_
  refine lv_istore_n (lv' := [(1, .int 0), (0, .ref (A (gp i 0)))]) hx hb dX1_beginAnew_11 rfl hl (by decide) rfl (fun ls hl => ?_)
  exact tX1_beginAnew_12 hI hi   X FL 0 m_3 _ _ _  h hP hS (lv_sub hl [1, 0] rfl)

def fX1_has (i : Nat) (a1 : Int32) (m : Mm) : Option (Int32 × Mm) := (if a1 < 0 then some (0, m) else (if ((m (gp i 0) 3) : Int32) ≤ a1 then some (0, m) else some (1, m)))
set_option maxHeartbeats 4000000 in
set_option maxRecDepth 100000 in
theorem tX1_has {l : Launch} {D : va_G} {cA : Nat → ClassId} {A : Nat → Nat} (hI : InjA cN A) {i : Nat} (hi : i < 8) {a1 : Int32} {m m' : Mm} {r : Int32} (h : fX1_has i a1 m = some (r, m')) : Met0 l yX1_has cX1_has 2 (some .boolean) { frames := 0, cells := 0, slots := 0, locals := 0 } cLay cN D cA A [.ref (A (gp i 0)), .int a1] m (some (.int r)) m' := by
  refine met0_of (by decide) (Nat.le_of_ble_eq_true rfl) hI ?_
  intro p e s m0 below meth c ls X hinit hP hS hl
  generalize ([.ref (A (gp i 0)), .int a1] : List Value).toArray = args at X ⊢
  have hl : lv_has ls 2 [(0, .ref (A (gp i 0))), (1, .int a1)] := hl
  have X : CX cLay cN D cA A p s m0 args meth c "BenchTowels$Gym" cX1_has 2 (some .boolean) := X
  have hx := X.1
  have hb := X.2.1
  have hml := X.2.2.1
  have hown := X.2.2.2.1
  have hts := X.2.2.2.2.1
  have hF := X.2.2.2.2.2.2.2.2.1
  rewrite [fX1_has] at h
  refine lv_iload_n hx hb dX1_has_0 rfl (lv_at hl 1 rfl) ?_
  refine lv_if_lt (tgt := 16) hx hb dX1_has_1 (by decide) (fun c_1 => ?_) (fun c_1 => ?_)
  · have h := ifp c_1 h
    refine lv_iconst (v := 0) hx hb dX1_has_16 (by decide) ?_
    exact r_zret X (Or.inl rfl) hP hS dX1_has_17 h
  · have h := ifn c_1 h
    refine lv_iload_n hx hb dX1_has_4 rfl (lv_at hl 1 rfl) ?_
    refine lv_aload_n hx hb dX1_has_5 rfl (lv_at hl 0 rfl) ?_
    refine r_get kc_1 3 X hP (lt_g hi (by decide)) (L_gym hi _) (by decide) rfl wt_1_175 dX1_has_6 ?_
    refine lv_icmp_ge (tgt := 16) hx hb dX1_has_9 (by decide) (fun c_2 => ?_) (fun c_2 => ?_)
    · have h := ifp c_2 h
      refine lv_iconst (v := 0) hx hb dX1_has_16 (by decide) ?_
      exact r_zret X (Or.inl rfl) hP hS dX1_has_17 h
    · have h := ifn c_2 h
      refine lv_iconst (v := 1) hx hb dX1_has_12 (by decide) ?_
      refine lv_goto (tgt := 17) hx hb dX1_has_13 (by decide) ?_
      exact r_zret X (Or.inr rfl) hP hS dX1_has_17 h

def fX1_isAct (i : Nat) (a1 : Int32) (m : Mm) : Option (Int32 × Mm) := (if a1 < 0 then some (0, m) else (if ((m (gp i 0) 3) : Int32) < a1 then some (0, m) else some (1, m)))
set_option maxHeartbeats 4000000 in
set_option maxRecDepth 100000 in
theorem tX1_isAct {l : Launch} {D : va_G} {cA : Nat → ClassId} {A : Nat → Nat} (hI : InjA cN A) {i : Nat} (hi : i < 8) {a1 : Int32} {m m' : Mm} {r : Int32} (h : fX1_isAct i a1 m = some (r, m')) : Met0 l yX1_isAct cX1_isAct 2 (some .boolean) { frames := 0, cells := 0, slots := 0, locals := 0 } cLay cN D cA A [.ref (A (gp i 0)), .int a1] m (some (.int r)) m' := by
  refine met0_of (by decide) (Nat.le_of_ble_eq_true rfl) hI ?_
  intro p e s m0 below meth c ls X hinit hP hS hl
  generalize ([.ref (A (gp i 0)), .int a1] : List Value).toArray = args at X ⊢
  have hl : lv_has ls 2 [(0, .ref (A (gp i 0))), (1, .int a1)] := hl
  have X : CX cLay cN D cA A p s m0 args meth c "BenchTowels$Gym" cX1_isAct 2 (some .boolean) := X
  have hx := X.1
  have hb := X.2.1
  have hml := X.2.2.1
  have hown := X.2.2.2.1
  have hts := X.2.2.2.2.1
  have hF := X.2.2.2.2.2.2.2.2.1
  rewrite [fX1_isAct] at h
  refine lv_iload_n hx hb dX1_isAct_0 rfl (lv_at hl 1 rfl) ?_
  refine lv_if_lt (tgt := 16) hx hb dX1_isAct_1 (by decide) (fun c_1 => ?_) (fun c_1 => ?_)
  · have h := ifp c_1 h
    refine lv_iconst (v := 0) hx hb dX1_isAct_16 (by decide) ?_
    exact r_zret X (Or.inl rfl) hP hS dX1_isAct_17 h
  · have h := ifn c_1 h
    refine lv_iload_n hx hb dX1_isAct_4 rfl (lv_at hl 1 rfl) ?_
    refine lv_aload_n hx hb dX1_isAct_5 rfl (lv_at hl 0 rfl) ?_
    refine r_get kc_1 3 X hP (lt_g hi (by decide)) (L_gym hi _) (by decide) rfl wt_1_175 dX1_isAct_6 ?_
    refine lv_icmp_gt (tgt := 16) hx hb dX1_isAct_9 (by decide) (fun c_2 => ?_) (fun c_2 => ?_)
    · have h := ifp c_2 h
      refine lv_iconst (v := 0) hx hb dX1_isAct_16 (by decide) ?_
      exact r_zret X (Or.inl rfl) hP hS dX1_isAct_17 h
    · have h := ifn c_2 h
      refine lv_iconst (v := 1) hx hb dX1_isAct_12 (by decide) ?_
      refine lv_goto (tgt := 17) hx hb dX1_isAct_13 (by decide) ?_
      exact r_zret X (Or.inr rfl) hP hS dX1_isAct_17 h

def fX1_isOfSets (i : Nat) (a1 : Int32) (m : Mm) : Option (Int32 × Mm) := (if a1 < 0 then some (0, m) else (if (((1 : Int32) <<< ((m (gp i 0) 3) &&& 31)) : Int32) ≤ a1 then some (0, m) else some (1, m)))
set_option maxHeartbeats 4000000 in
set_option maxRecDepth 100000 in
theorem tX1_isOfSets {l : Launch} {D : va_G} {cA : Nat → ClassId} {A : Nat → Nat} (hI : InjA cN A) {i : Nat} (hi : i < 8) {a1 : Int32} {m m' : Mm} {r : Int32} (h : fX1_isOfSets i a1 m = some (r, m')) : Met0 l yX1_isOfSets cX1_isOfSets 2 (some .boolean) { frames := 0, cells := 0, slots := 0, locals := 0 } cLay cN D cA A [.ref (A (gp i 0)), .int a1] m (some (.int r)) m' := by
  refine met0_of (by decide) (Nat.le_of_ble_eq_true rfl) hI ?_
  intro p e s m0 below meth c ls X hinit hP hS hl
  generalize ([.ref (A (gp i 0)), .int a1] : List Value).toArray = args at X ⊢
  have hl : lv_has ls 2 [(0, .ref (A (gp i 0))), (1, .int a1)] := hl
  have X : CX cLay cN D cA A p s m0 args meth c "BenchTowels$Gym" cX1_isOfSets 2 (some .boolean) := X
  have hx := X.1
  have hb := X.2.1
  have hml := X.2.2.1
  have hown := X.2.2.2.1
  have hts := X.2.2.2.2.1
  have hF := X.2.2.2.2.2.2.2.2.1
  rewrite [fX1_isOfSets] at h
  refine lv_iload_n hx hb dX1_isOfSets_0 rfl (lv_at hl 1 rfl) ?_
  refine lv_if_lt (tgt := 18) hx hb dX1_isOfSets_1 (by decide) (fun c_1 => ?_) (fun c_1 => ?_)
  · have h := ifp c_1 h
    refine lv_iconst (v := 0) hx hb dX1_isOfSets_18 (by decide) ?_
    exact r_zret X (Or.inl rfl) hP hS dX1_isOfSets_19 h
  · have h := ifn c_1 h
    refine lv_iload_n hx hb dX1_isOfSets_4 rfl (lv_at hl 1 rfl) ?_
    refine lv_iconst (v := 1) hx hb dX1_isOfSets_5 (by decide) ?_
    refine lv_aload_n hx hb dX1_isOfSets_6 rfl (lv_at hl 0 rfl) ?_
    refine r_get kc_1 3 X hP (lt_g hi (by decide)) (L_gym hi _) (by decide) rfl wt_1_175 dX1_isOfSets_7 ?_
    refine lv_ishl hx hb dX1_isOfSets_10 ?_
    refine lv_icmp_ge (tgt := 18) hx hb dX1_isOfSets_11 (by decide) (fun c_2 => ?_) (fun c_2 => ?_)
    · have h := ifp c_2 h
      refine lv_iconst (v := 0) hx hb dX1_isOfSets_18 (by decide) ?_
      exact r_zret X (Or.inl rfl) hP hS dX1_isOfSets_19 h
    · have h := ifn c_2 h
      refine lv_iconst (v := 1) hx hb dX1_isOfSets_14 (by decide) ?_
      refine lv_goto (tgt := 19) hx hb dX1_isOfSets_15 (by decide) ?_
      exact r_zret X (Or.inr rfl) hP hS dX1_isOfSets_19 h

def fX1_isOver (i : Nat) (m : Mm) : Option (Int32 × Mm) := (if (m (gp i 0) 6) < (m (gp i 0) 7) then some (0, m) else some (1, m))
set_option maxHeartbeats 4000000 in
set_option maxRecDepth 100000 in
theorem tX1_isOver {l : Launch} {D : va_G} {cA : Nat → ClassId} {A : Nat → Nat} (hI : InjA cN A) {i : Nat} (hi : i < 8) {m m' : Mm} {r : Int32} (h : fX1_isOver i m = some (r, m')) : Met0 l yX1_isOver cX1_isOver 1 (some .boolean) { frames := 0, cells := 0, slots := 0, locals := 0 } cLay cN D cA A [.ref (A (gp i 0))] m (some (.int r)) m' := by
  refine met0_of (by decide) (Nat.le_of_ble_eq_true rfl) hI ?_
  intro p e s m0 below meth c ls X hinit hP hS hl
  generalize ([.ref (A (gp i 0))] : List Value).toArray = args at X ⊢
  have hl : lv_has ls 1 [(0, .ref (A (gp i 0)))] := hl
  have X : CX cLay cN D cA A p s m0 args meth c "BenchTowels$Gym" cX1_isOver 1 (some .boolean) := X
  have hx := X.1
  have hb := X.2.1
  have hml := X.2.2.1
  have hown := X.2.2.2.1
  have hts := X.2.2.2.2.1
  have hF := X.2.2.2.2.2.2.2.2.1
  rewrite [fX1_isOver] at h
  refine lv_aload_n hx hb dX1_isOver_0 rfl (lv_at hl 0 rfl) ?_
  refine r_get kc_1 6 X hP (lt_g hi (by decide)) (L_gym hi _) (by decide) rfl wt_1_184 dX1_isOver_1 ?_
  refine lv_aload_n hx hb dX1_isOver_4 rfl (lv_at hl 0 rfl) ?_
  refine r_get kc_1 7 X hP (lt_g hi (by decide)) (L_gym hi _) (by decide) rfl wt_1_185 dX1_isOver_5 ?_
  refine lv_icmp_lt (tgt := 15) hx hb dX1_isOver_8 (by decide) (fun c_1 => ?_) (fun c_1 => ?_)
  · have h := ifp c_1 h
    refine lv_iconst (v := 0) hx hb dX1_isOver_15 (by decide) ?_
    exact r_zret X (Or.inl rfl) hP hS dX1_isOver_16 h
  · have h := ifn c_1 h
    refine lv_iconst (v := 1) hx hb dX1_isOver_11 (by decide) ?_
    refine lv_goto (tgt := 16) hx hb dX1_isOver_12 (by decide) ?_
    exact r_zret X (Or.inr rfl) hP hS dX1_isOver_16 h

def fX1_spent_4 (i : Nat) : Nat → Int32 → Int32 → Mm → Option (Int32 × Mm)
  | 0, _, _, _ => none
  | n + 1, x1, x2, m => (if ((m (gp i 0) 3) : Int32) ≤ x2 then some (x1, m) else gx x2 6 ((if (m (gp i 6) (ix x2)) = 0 then lt (x1 ||| ((1 : Int32) <<< (x2 &&& 31))) fun x1_6 => lt ((x2 : Int32) + 1) fun x2_8 => (fX1_spent_4 i n x1_6 x2_8 m) else lt ((x2 : Int32) + 1) fun x2_4 => (fX1_spent_4 i n x1 x2_4 m))))
set_option maxHeartbeats 4000000 in
set_option maxRecDepth 100000 in
theorem tX1_spent_4 (hI : InjA cN A) {i : Nat} (hi : i < 8) {r : Int32} {m' : Mm} (X : CX cLay cN D cA A p s m0 args meth c "BenchTowels$Gym" cX1_spent 3 (some .int)) : ∀ (n : Nat) (x1 : Int32) (x2 : Int32) (m : Mm) (H : Heap) (locs : List Loc) (ls : Array Slot), fX1_spent_4 i n x1 x2 m = some (r, m') → va_P D vwCl (wsOf cLay cN cA A m) H → va_S (AW cN A) s.heap H locs → lv_has ls 3 [(0, .ref (A (gp i 0))), (1, .int x1), (2, .int x2)] → W p l e { frames := 0, cells := 0, slots := 0, locals := 0 } s m0 args below meth c H locs 0 0 (ZR below args s cLay cN D cA A (some (.int r)) m') (F0 m0 4 ls []) := by
  have hx := X.1
  have hb := X.2.1
  have hml := X.2.2.1
  have hown := X.2.2.2.1
  have hts := X.2.2.2.2.1
  have hF := X.2.2.2.2.2.2.2.2.1
  intro n
  induction n with
  | zero =>
    intro x1 x2 m H locs ls h hP hS hl
    exact absurd h (by rewrite [fX1_spent_4]; exact fun q => by cases q)
  | succ n ih =>
    intro x1 x2 m H locs ls h hP hS hl
    rewrite [fX1_spent_4] at h
    refine lv_iload_n hx hb dX1_spent_4 rfl (lv_at hl 2 rfl) ?_
    refine lv_aload_n hx hb dX1_spent_5 rfl (lv_at hl 0 rfl) ?_
    refine r_get kc_1 3 X hP (lt_g hi (by decide)) (L_gym hi _) (by decide) rfl wt_1_175 dX1_spent_6 ?_
    refine lv_icmp_ge (tgt := 35) hx hb dX1_spent_9 (by decide) (fun c_1 => ?_) (fun c_1 => ?_)
    · have h := ifp c_1 h
      refine lv_iload_n hx hb dX1_spent_35 rfl (lv_at hl 1 rfl) ?_
      exact r_iret X hP hS dX1_spent_36 h
    · have h := ifn c_1 h
      refine lv_aload_n hx hb dX1_spent_12 rfl (lv_at hl 0 rfl) ?_
      refine r_get kc_1 2 X hP (lt_g hi (by decide)) (L_gym hi _) (by decide) rfl wt_1_172 dX1_spent_13 ?_
      refine lv_iconst (v := 4) hx hb dX1_spent_16 (by decide) ?_
      refine r_row (q' := (gp i 6)) X hP (lt_g hi (by decide)) ((Lq_g_1 hi) _) (vpc (by decide)) ixc_4 (by decide) rfl dX1_spent_17 ?_
      refine lv_iload_n hx hb dX1_spent_18 rfl (lv_at hl 2 rfl) ?_
      obtain ⟨hin_2, h⟩ := gx_some h
      refine r_iald X hP (lt_g2 (j := 4) hi (by decide)) ((La_g_row (j := 4) hi (by decide)) _) hin_2 rfl dX1_spent_19 ?_
      refine lv_if_ne (tgt := 29) hx hb dX1_spent_20 (by decide) (fun c_3 => ?_) (fun c_3 => ?_)
      · have h := ifn c_3 h
        obtain ⟨x2_4, ex_5, h⟩ := lt_some h
        refine lv_iinc (v := x2_4) (lv' := [(2, .int x2_4), (0, .ref (A (gp i 0))), (1, .int x1)]) hx hb dX1_spent_29 hl (k := 2) rfl (by rw [ex_5]; rfl) (by decide) rfl (fun ls hl => ?_)
        refine lv_goto (tgt := 4) hx hb dX1_spent_32 (by decide) ?_
        exact ih x1 x2_4 m _ _ _  h hP hS (lv_sub hl [1, 2, 0] rfl)
      · have h := ifp c_3 h
        refine lv_iload_n hx hb dX1_spent_23 rfl (lv_at hl 1 rfl) ?_
        refine lv_iconst (v := 1) hx hb dX1_spent_24 (by decide) ?_
        refine lv_iload_n hx hb dX1_spent_25 rfl (lv_at hl 2 rfl) ?_
        refine lv_ishl hx hb dX1_spent_26 ?_
        refine lv_ior hx hb dX1_spent_27 ?_
        obtain ⟨x1_6, ex_7, h⟩ := lt_some h
        refine lv_ren ex_7 ?_
        refine lv_istore_n (lv' := [(1, .int x1_6), (0, .ref (A (gp i 0))), (2, .int x2)]) hx hb dX1_spent_28 rfl hl (by decide) rfl (fun ls hl => ?_)
        obtain ⟨x2_8, ex_9, h⟩ := lt_some h
        refine lv_iinc (v := x2_8) (lv' := [(2, .int x2_8), (1, .int x1_6), (0, .ref (A (gp i 0)))]) hx hb dX1_spent_29 hl (k := 2) rfl (by rw [ex_9]; rfl) (by decide) rfl (fun ls hl => ?_)
        refine lv_goto (tgt := 4) hx hb dX1_spent_32 (by decide) ?_
        exact ih x1_6 x2_8 m _ _ _  h hP hS (lv_sub hl [2, 1, 0] rfl)

def fX1_spent (i : Nat) (m : Mm) : Option (Int32 × Mm) := (fX1_spent_4 i FL 0 0 m)
set_option maxHeartbeats 4000000 in
set_option maxRecDepth 100000 in
theorem tX1_spent {l : Launch} {D : va_G} {cA : Nat → ClassId} {A : Nat → Nat} (hI : InjA cN A) {i : Nat} (hi : i < 8) {m m' : Mm} {r : Int32} (h : fX1_spent i m = some (r, m')) : Met0 l yX1_spent cX1_spent 3 (some .int) { frames := 0, cells := 0, slots := 0, locals := 0 } cLay cN D cA A [.ref (A (gp i 0))] m (some (.int r)) m' := by
  refine met0_of (by decide) (Nat.le_of_ble_eq_true rfl) hI ?_
  intro p e s m0 below meth c ls X hinit hP hS hl
  generalize ([.ref (A (gp i 0))] : List Value).toArray = args at X ⊢
  have hl : lv_has ls 3 [(0, .ref (A (gp i 0)))] := hl
  have X : CX cLay cN D cA A p s m0 args meth c "BenchTowels$Gym" cX1_spent 3 (some .int) := X
  have hx := X.1
  have hb := X.2.1
  have hml := X.2.2.1
  have hown := X.2.2.2.1
  have hts := X.2.2.2.2.1
  have hF := X.2.2.2.2.2.2.2.2.1
  rewrite [fX1_spent] at h
  refine lv_iconst (v := 0) hx hb dX1_spent_0 (by decide) ?_
  refine lv_istore_n (lv' := [(1, .int 0), (0, .ref (A (gp i 0)))]) hx hb dX1_spent_1 rfl hl (by decide) rfl (fun ls hl => ?_)
  refine lv_iconst (v := 0) hx hb dX1_spent_2 (by decide) ?_
  refine lv_istore_n (lv' := [(2, .int 0), (1, .int 0), (0, .ref (A (gp i 0)))]) hx hb dX1_spent_3 rfl hl (by decide) rfl (fun ls hl => ?_)
  exact tX1_spent_4 hI hi   X FL 0 0 m _ _ _  h hP hS (lv_sub hl [2, 1, 0] rfl)

def v_may (k : Nat) (a1 : Int32) (a2 : Int32) (m : Mm) : Option (Int32 × Mm) := if k = 0 then fX6_may k a1 a2 m else if k = 1 then fX0_may a1 a2 m else if k = 2 then fX9_may k a1 a2 m else if k = 3 then fX5_may a1 a2 m else if k = 4 then fX2_may k a1 a2 m else if k = 5 then fX10_may a1 a2 m else none

set_option maxHeartbeats 4000000 in
theorem vc_1_66 {R : Room} {H : Heap} {locs : List Loc} {Q : State → Prop} {m m1 : Mm} {cc : ByteArray} {nL pc pc' : Nat} {ret : Option FieldType} {ls : Array Slot} {rest : List Value} {k : Nat} {r : Int32} {a1 : Int32} {a2 : Int32} (X : CX cLay cN D cA A p s m0 args meth c "BenchTowels$Gym" cc nL ret) (hP : va_P D vwCl (wsOf cLay cN cA A m) H) (hS : va_S (AW cN A) s.heap H locs) (hI : InjA cN A) (hk : k < 6) (hv : v_may k a1 a2 m = some (r, m1)) (hR : 2 + 1 ≤ R.frames ∧ 19 + 46 ≤ R.locals) (hs : ls.size = nL) (hW : (rest.map fun v => v.category).sum ≤ 8) (hdg : decode cc pc = .ok (.invokevirtual 66, 3)) (hpc : pc + 3 = pc')
    (kk : ∀ (H1 : Heap) (locs1 : List Loc), va_P D vwCl (wsOf cLay cN cA A m1) H1 → va_S (AW cN A) s.heap H1 locs1 → W p l e R s m0 args below meth c H1 locs1 0 0 Q (F0 m0 pc' ls (.int r :: rest))) : W p l e R s m0 args below meth c H locs 0 0 Q (F0 m0 pc ls (.int a2 :: .int a1 :: .ref (A (kp k)) :: rest)) := by
  unfold v_may at hv
  rcases (show k = 0 ∨ k = 1 ∨ k = 2 ∨ k = 3 ∨ k = 4 ∨ k = 5 by omega) with rfl | rfl | rfl | rfl | rfl | rfl
  · have hv := ifp rfl hv
    exact c_U (rest := rest) "BenchTowels$Plain" X hP hS (tX6_may hI (by decide) hv) (lt_k (by decide)) (L_kind (by decide) _) rfl wt_2_168 wt_2_171 wt_2_169 wt_2_170 wt_2_169 wt_1_4 wt_2_196 wt_2_196 hyU_X6_may ⟨rfl, rfl⟩ ⟨Nat.le_trans (Nat.le_of_ble_eq_true rfl) hR.1, Nat.le_trans (Nat.le_of_ble_eq_true rfl) hR.2⟩ rfl hs rfl hW hdg hpc kk
  · have hv := ifn (by decide) hv
    have hv := ifp rfl hv
    exact c_U (rest := rest) "BenchTowels$Plain" X hP hS (tX0_may hI  hv) (lt_k (by decide)) (L_kind (by decide) _) rfl wt_2_168 wt_2_171 wt_2_169 wt_2_172 wt_2_173 wt_1_5 wt_2_174 wt_2_196 hyU_X6_may ⟨rfl, rfl⟩ ⟨Nat.le_trans (Nat.le_of_ble_eq_true rfl) hR.1, Nat.le_trans (Nat.le_of_ble_eq_true rfl) hR.2⟩ rfl hs rfl hW hdg hpc kk
  · have hv := ifn (by decide) hv
    have hv := ifn (by decide) hv
    have hv := ifp rfl hv
    exact c_U (rest := rest) "BenchTowels$Plain" X hP hS (tX9_may hI (by decide) hv) (lt_k (by decide)) (L_kind (by decide) _) rfl wt_2_168 wt_2_171 wt_2_169 wt_2_187 wt_2_188 wt_1_6 wt_2_189 wt_2_196 hyU_X6_may ⟨rfl, rfl⟩ ⟨Nat.le_trans (Nat.le_of_ble_eq_true rfl) hR.1, Nat.le_trans (Nat.le_of_ble_eq_true rfl) hR.2⟩ rfl hs rfl hW hdg hpc kk
  · have hv := ifn (by decide) hv
    have hv := ifn (by decide) hv
    have hv := ifn (by decide) hv
    have hv := ifp rfl hv
    exact c_U (rest := rest) "BenchTowels$Plain" X hP hS (tX5_may hI  hv) (lt_k (by decide)) (L_kind (by decide) _) rfl wt_2_168 wt_2_171 wt_2_169 wt_2_184 wt_2_185 wt_1_7 wt_2_186 wt_2_196 hyU_X6_may ⟨rfl, rfl⟩ ⟨Nat.le_trans (Nat.le_of_ble_eq_true rfl) hR.1, Nat.le_trans (Nat.le_of_ble_eq_true rfl) hR.2⟩ rfl hs rfl hW hdg hpc kk
  · have hv := ifn (by decide) hv
    have hv := ifn (by decide) hv
    have hv := ifn (by decide) hv
    have hv := ifn (by decide) hv
    have hv := ifp rfl hv
    exact c_U (rest := rest) "BenchTowels$Plain" X hP hS (tX2_may hI (by decide) hv) (lt_k (by decide)) (L_kind (by decide) _) rfl wt_2_168 wt_2_171 wt_2_169 wt_2_176 wt_2_177 wt_1_8 wt_2_178 wt_2_196 hyU_X6_may ⟨rfl, rfl⟩ ⟨Nat.le_trans (Nat.le_of_ble_eq_true rfl) hR.1, Nat.le_trans (Nat.le_of_ble_eq_true rfl) hR.2⟩ rfl hs rfl hW hdg hpc kk
  · have hv := ifn (by decide) hv
    have hv := ifn (by decide) hv
    have hv := ifn (by decide) hv
    have hv := ifn (by decide) hv
    have hv := ifn (by decide) hv
    have hv := ifp rfl hv
    exact c_U (rest := rest) "BenchTowels$Plain" X hP hS (tX10_may hI  hv) (lt_k (by decide)) (L_kind (by decide) _) rfl wt_2_168 wt_2_171 wt_2_169 wt_2_191 wt_2_192 wt_1_9 wt_2_193 wt_2_196 hyU_X6_may ⟨rfl, rfl⟩ ⟨Nat.le_trans (Nat.le_of_ble_eq_true rfl) hR.1, Nat.le_trans (Nat.le_of_ble_eq_true rfl) hR.2⟩ rfl hs rfl hW hdg hpc kk

def fX1_mayIn (i : Nat) (a1 : Int32) (a2 : Int32) (m : Mm) : Option (Int32 × Mm) := gx a1 6 (gx (m (gp i 2) (ix a1)) 6 (gx (m (gp i 3) (ix a1)) 6 (bd (v_may (ix (m (gp i 2) (ix a1))) (m (gp i 9) (ix (m (gp i 3) (ix a1)))) a2 m) fun r_5 m_6 => gb r_5 (some (r_5, m_6)))))
set_option maxHeartbeats 4000000 in
set_option maxRecDepth 100000 in
theorem tX1_mayIn {l : Launch} {D : va_G} {cA : Nat → ClassId} {A : Nat → Nat} (hI : InjA cN A) {i : Nat} (hi : i < 8) {a1 : Int32} {a2 : Int32} {m m' : Mm} {r : Int32} (h : fX1_mayIn i a1 a2 m = some (r, m')) : Met0 l yX1_mayIn cX1_mayIn 3 (some .boolean) { frames := 3, cells := 0, slots := 0, locals := 65 } cLay cN D cA A [.ref (A (gp i 0)), .int a1, .int a2] m (some (.int r)) m' := by
  refine met0_of (by decide) (Nat.le_of_ble_eq_true rfl) hI ?_
  intro p e s m0 below meth c ls X hinit hP hS hl
  generalize ([.ref (A (gp i 0)), .int a1, .int a2] : List Value).toArray = args at X ⊢
  have hl : lv_has ls 3 [(0, .ref (A (gp i 0))), (1, .int a1), (2, .int a2)] := hl
  have X : CX cLay cN D cA A p s m0 args meth c "BenchTowels$Gym" cX1_mayIn 3 (some .boolean) := X
  have hx := X.1
  have hb := X.2.1
  have hml := X.2.2.1
  have hown := X.2.2.2.1
  have hts := X.2.2.2.2.1
  have hF := X.2.2.2.2.2.2.2.2.1
  rewrite [fX1_mayIn] at h
  refine lv_aload_n hx hb dX1_mayIn_0 rfl (lv_at hl 0 rfl) ?_
  refine r_get kc_1 0 X hP (lt_g hi (by decide)) (L_gym hi _) (by decide) rfl wt_1_170 dX1_mayIn_1 ?_
  refine lv_aload_n hx hb dX1_mayIn_4 rfl (lv_at hl 0 rfl) ?_
  refine r_get kc_1 2 X hP (lt_g hi (by decide)) (L_gym hi _) (by decide) rfl wt_1_172 dX1_mayIn_5 ?_
  refine lv_iconst (v := 0) hx hb dX1_mayIn_8 (by decide) ?_
  refine r_row (q' := (gp i 2)) X hP (lt_g hi (by decide)) ((Lq_g_1 hi) _) (vpc (by decide)) ixc_0 (by decide) rfl dX1_mayIn_9 ?_
  refine lv_iload_n hx hb dX1_mayIn_10 rfl (lv_at hl 1 rfl) ?_
  obtain ⟨hin_1, h⟩ := gx_some h
  refine r_iald X hP (lt_g2 (j := 0) hi (by decide)) ((La_g_row (j := 0) hi (by decide)) _) hin_1 rfl dX1_mayIn_11 ?_
  obtain ⟨hin_2, h⟩ := gx_some h
  have q_3 := vp_lt hin_2
  refine r_rowq 3 (q' := (kp (ix (m (gp i 2) (ix a1))))) rfl X hP (by decide) (Lq_2 _) hin_2 rfl q_3 rfl dX1_mayIn_12 ?_
  refine lv_aload_n hx hb dX1_mayIn_13 rfl (lv_at hl 0 rfl) ?_
  refine r_get kc_1 4 X hP (lt_g hi (by decide)) (L_gym hi _) (by decide) rfl wt_1_178 dX1_mayIn_14 ?_
  refine lv_iconst (v := 1) hx hb dX1_mayIn_17 (by decide) ?_
  refine r_row (q' := (gp i 9)) X hP (lt_g hi (by decide)) ((Lq_g_7 hi) _) (vpc (by decide)) ixc_1 (by decide) rfl dX1_mayIn_18 ?_
  refine lv_aload_n hx hb dX1_mayIn_19 rfl (lv_at hl 0 rfl) ?_
  refine r_get kc_1 2 X hP (lt_g hi (by decide)) (L_gym hi _) (by decide) rfl wt_1_172 dX1_mayIn_20 ?_
  refine lv_iconst (v := 1) hx hb dX1_mayIn_23 (by decide) ?_
  refine r_row (q' := (gp i 3)) X hP (lt_g hi (by decide)) ((Lq_g_1 hi) _) (vpc (by decide)) ixc_1 (by decide) rfl dX1_mayIn_24 ?_
  refine lv_iload_n hx hb dX1_mayIn_25 rfl (lv_at hl 1 rfl) ?_
  refine r_iald X hP (lt_g2 (j := 1) hi (by decide)) ((La_g_row (j := 1) hi (by decide)) _) hin_1 rfl dX1_mayIn_26 ?_
  obtain ⟨hin_4, h⟩ := gx_some h
  refine r_iald X hP (lt_g8 (j := 1) hi (by decide)) ((La_g_mrow (j := 1) hi (by decide)) _) hin_4 rfl dX1_mayIn_27 ?_
  refine lv_iload_n hx hb dX1_mayIn_28 rfl (lv_at hl 2 rfl) ?_
  obtain ⟨r_5, m_6, hc_7, h⟩ := bd_some h
  refine vc_1_66 (rest := []) X hP hS hI q_3 hc_7 ⟨Nat.le_of_ble_eq_true rfl, Nat.le_of_ble_eq_true rfl⟩ hl.1 (Nat.le_of_ble_eq_true rfl) dX1_mayIn_29 rfl (fun H locs hP hS => ?_)
  obtain ⟨hz_8, h⟩ := gb_some h
  exact r_zret X hz_8 hP hS dX1_mayIn_32 h

def v_gains (k : Nat) (a1 : Int32) (a2 : Int32) (m : Mm) : Option (Int32 × Mm) := if k = 0 then fX6_gains k a1 a2 m else if k = 1 then fX0_gains a1 a2 m else if k = 2 then fX9_gains k a1 a2 m else if k = 3 then fX5_gains a1 a2 m else if k = 4 then fX6_gains k a1 a2 m else if k = 5 then fX10_gains a1 a2 m else none

set_option maxHeartbeats 4000000 in
theorem vc_1_72 {R : Room} {H : Heap} {locs : List Loc} {Q : State → Prop} {m m1 : Mm} {cc : ByteArray} {nL pc pc' : Nat} {ret : Option FieldType} {ls : Array Slot} {rest : List Value} {k : Nat} {r : Int32} {a1 : Int32} {a2 : Int32} (X : CX cLay cN D cA A p s m0 args meth c "BenchTowels$Gym" cc nL ret) (hP : va_P D vwCl (wsOf cLay cN cA A m) H) (hS : va_S (AW cN A) s.heap H locs) (hI : InjA cN A) (hk : k < 6) (hv : v_gains k a1 a2 m = some (r, m1)) (hR : 2 + 1 ≤ R.frames ∧ 19 + 47 ≤ R.locals) (hs : ls.size = nL) (hW : (rest.map fun v => v.category).sum ≤ 8) (hdg : decode cc pc = .ok (.invokevirtual 72, 3)) (hpc : pc + 3 = pc')
    (kk : ∀ (H1 : Heap) (locs1 : List Loc), va_P D vwCl (wsOf cLay cN cA A m1) H1 → va_S (AW cN A) s.heap H1 locs1 → W p l e R s m0 args below meth c H1 locs1 0 0 Q (F0 m0 pc' ls (.int r :: rest))) : W p l e R s m0 args below meth c H locs 0 0 Q (F0 m0 pc ls (.int a2 :: .int a1 :: .ref (A (kp k)) :: rest)) := by
  unfold v_gains at hv
  rcases (show k = 0 ∨ k = 1 ∨ k = 2 ∨ k = 3 ∨ k = 4 ∨ k = 5 by omega) with rfl | rfl | rfl | rfl | rfl | rfl
  · have hv := ifp rfl hv
    exact c_U (rest := rest) "BenchTowels$Plain" X hP hS (tX6_gains hI (by decide) hv) (lt_k (by decide)) (L_kind (by decide) _) rfl wt_2_202 wt_2_205 wt_2_203 wt_2_204 wt_2_203 wt_1_4 wt_2_225 wt_2_225 hyU_X6_gains ⟨rfl, rfl⟩ ⟨Nat.le_trans (Nat.le_of_ble_eq_true rfl) hR.1, Nat.le_trans (Nat.le_of_ble_eq_true rfl) hR.2⟩ rfl hs rfl hW hdg hpc kk
  · have hv := ifn (by decide) hv
    have hv := ifp rfl hv
    exact c_U (rest := rest) "BenchTowels$Plain" X hP hS (tX0_gains hI  hv) (lt_k (by decide)) (L_kind (by decide) _) rfl wt_2_202 wt_2_205 wt_2_203 wt_2_206 wt_2_207 wt_1_5 wt_2_208 wt_2_225 hyU_X6_gains ⟨rfl, rfl⟩ ⟨Nat.le_trans (Nat.le_of_ble_eq_true rfl) hR.1, Nat.le_trans (Nat.le_of_ble_eq_true rfl) hR.2⟩ rfl hs rfl hW hdg hpc kk
  · have hv := ifn (by decide) hv
    have hv := ifn (by decide) hv
    have hv := ifp rfl hv
    exact c_U (rest := rest) "BenchTowels$Plain" X hP hS (tX9_gains hI (by decide) hv) (lt_k (by decide)) (L_kind (by decide) _) rfl wt_2_202 wt_2_205 wt_2_203 wt_2_218 wt_2_215 wt_1_6 wt_2_216 wt_2_225 hyU_X6_gains ⟨rfl, rfl⟩ ⟨Nat.le_trans (Nat.le_of_ble_eq_true rfl) hR.1, Nat.le_trans (Nat.le_of_ble_eq_true rfl) hR.2⟩ rfl hs rfl hW hdg hpc kk
  · have hv := ifn (by decide) hv
    have hv := ifn (by decide) hv
    have hv := ifn (by decide) hv
    have hv := ifp rfl hv
    exact c_U (rest := rest) "BenchTowels$Plain" X hP hS (tX5_gains hI  hv) (lt_k (by decide)) (L_kind (by decide) _) rfl wt_2_202 wt_2_205 wt_2_203 wt_2_211 wt_2_212 wt_1_7 wt_2_213 wt_2_225 hyU_X6_gains ⟨rfl, rfl⟩ ⟨Nat.le_trans (Nat.le_of_ble_eq_true rfl) hR.1, Nat.le_trans (Nat.le_of_ble_eq_true rfl) hR.2⟩ rfl hs rfl hW hdg hpc kk
  · have hv := ifn (by decide) hv
    have hv := ifn (by decide) hv
    have hv := ifn (by decide) hv
    have hv := ifn (by decide) hv
    have hv := ifp rfl hv
    exact c_U (rest := rest) "BenchTowels$Plain" X hP hS (tX6_gains hI (by decide) hv) (lt_k (by decide)) (L_kind (by decide) _) rfl wt_2_202 wt_2_205 wt_2_203 wt_2_210 wt_2_203 wt_1_4 wt_2_225 wt_2_225 hyU_X6_gains ⟨rfl, rfl⟩ ⟨Nat.le_trans (Nat.le_of_ble_eq_true rfl) hR.1, Nat.le_trans (Nat.le_of_ble_eq_true rfl) hR.2⟩ rfl hs rfl hW hdg hpc kk
  · have hv := ifn (by decide) hv
    have hv := ifn (by decide) hv
    have hv := ifn (by decide) hv
    have hv := ifn (by decide) hv
    have hv := ifn (by decide) hv
    have hv := ifp rfl hv
    exact c_U (rest := rest) "BenchTowels$Plain" X hP hS (tX10_gains hI  hv) (lt_k (by decide)) (L_kind (by decide) _) rfl wt_2_202 wt_2_205 wt_2_203 wt_2_219 wt_2_220 wt_1_9 wt_2_221 wt_2_225 hyU_X6_gains ⟨rfl, rfl⟩ ⟨Nat.le_trans (Nat.le_of_ble_eq_true rfl) hR.1, Nat.le_trans (Nat.le_of_ble_eq_true rfl) hR.2⟩ rfl hs rfl hW hdg hpc kk

def fX1_gains (i : Nat) (a1 : Int32) (m : Mm) : Option (Int32 × Mm) := gx a1 6 (gx (m (gp i 2) (ix a1)) 6 (bd (v_gains (ix (m (gp i 2) (ix a1))) (m (gp i 4) (ix a1)) (m (gp i 0) 6) m) fun r_4 m_5 => some (r_4, m_5)))
set_option maxHeartbeats 4000000 in
set_option maxRecDepth 100000 in
theorem tX1_gains {l : Launch} {D : va_G} {cA : Nat → ClassId} {A : Nat → Nat} (hI : InjA cN A) {i : Nat} (hi : i < 8) {a1 : Int32} {m m' : Mm} {r : Int32} (h : fX1_gains i a1 m = some (r, m')) : Met0 l yX1_gains cX1_gains 2 (some .int) { frames := 3, cells := 0, slots := 0, locals := 66 } cLay cN D cA A [.ref (A (gp i 0)), .int a1] m (some (.int r)) m' := by
  refine met0_of (by decide) (Nat.le_of_ble_eq_true rfl) hI ?_
  intro p e s m0 below meth c ls X hinit hP hS hl
  generalize ([.ref (A (gp i 0)), .int a1] : List Value).toArray = args at X ⊢
  have hl : lv_has ls 2 [(0, .ref (A (gp i 0))), (1, .int a1)] := hl
  have X : CX cLay cN D cA A p s m0 args meth c "BenchTowels$Gym" cX1_gains 2 (some .int) := X
  have hx := X.1
  have hb := X.2.1
  have hml := X.2.2.1
  have hown := X.2.2.2.1
  have hts := X.2.2.2.2.1
  have hF := X.2.2.2.2.2.2.2.2.1
  rewrite [fX1_gains] at h
  refine lv_aload_n hx hb dX1_gains_0 rfl (lv_at hl 0 rfl) ?_
  refine r_get kc_1 0 X hP (lt_g hi (by decide)) (L_gym hi _) (by decide) rfl wt_1_170 dX1_gains_1 ?_
  refine lv_aload_n hx hb dX1_gains_4 rfl (lv_at hl 0 rfl) ?_
  refine r_get kc_1 2 X hP (lt_g hi (by decide)) (L_gym hi _) (by decide) rfl wt_1_172 dX1_gains_5 ?_
  refine lv_iconst (v := 0) hx hb dX1_gains_8 (by decide) ?_
  refine r_row (q' := (gp i 2)) X hP (lt_g hi (by decide)) ((Lq_g_1 hi) _) (vpc (by decide)) ixc_0 (by decide) rfl dX1_gains_9 ?_
  refine lv_iload_n hx hb dX1_gains_10 rfl (lv_at hl 1 rfl) ?_
  obtain ⟨hin_1, h⟩ := gx_some h
  refine r_iald X hP (lt_g2 (j := 0) hi (by decide)) ((La_g_row (j := 0) hi (by decide)) _) hin_1 rfl dX1_gains_11 ?_
  obtain ⟨hin_2, h⟩ := gx_some h
  have q_3 := vp_lt hin_2
  refine r_rowq 3 (q' := (kp (ix (m (gp i 2) (ix a1))))) rfl X hP (by decide) (Lq_2 _) hin_2 rfl q_3 rfl dX1_gains_12 ?_
  refine lv_aload_n hx hb dX1_gains_13 rfl (lv_at hl 0 rfl) ?_
  refine r_get kc_1 2 X hP (lt_g hi (by decide)) (L_gym hi _) (by decide) rfl wt_1_172 dX1_gains_14 ?_
  refine lv_iconst (v := 2) hx hb dX1_gains_17 (by decide) ?_
  refine r_row (q' := (gp i 4)) X hP (lt_g hi (by decide)) ((Lq_g_1 hi) _) (vpc (by decide)) ixc_2 (by decide) rfl dX1_gains_18 ?_
  refine lv_iload_n hx hb dX1_gains_19 rfl (lv_at hl 1 rfl) ?_
  refine r_iald X hP (lt_g2 (j := 2) hi (by decide)) ((La_g_row (j := 2) hi (by decide)) _) hin_1 rfl dX1_gains_20 ?_
  refine lv_aload_n hx hb dX1_gains_21 rfl (lv_at hl 0 rfl) ?_
  refine r_get kc_1 6 X hP (lt_g hi (by decide)) (L_gym hi _) (by decide) rfl wt_1_184 dX1_gains_22 ?_
  obtain ⟨r_4, m_5, hc_6, h⟩ := bd_some h
  refine vc_1_72 (rest := []) X hP hS hI q_3 hc_6 ⟨Nat.le_of_ble_eq_true rfl, Nat.le_of_ble_eq_true rfl⟩ hl.1 (Nat.le_of_ble_eq_true rfl) dX1_gains_25 rfl (fun H locs hP hS => ?_)
  exact r_iret X hP hS dX1_gains_28 h

def v_tires (k : Nat)  (m : Mm) : Option (Int32 × Mm) := if k = 0 then fX6_tires k m else if k = 1 then fX0_tires  m else if k = 2 then fX9_tires k m else if k = 3 then fX9_tires k m else if k = 4 then fX6_tires k m else if k = 5 then fX10_tires  m else none

set_option maxHeartbeats 4000000 in
theorem vc_1_76 {R : Room} {H : Heap} {locs : List Loc} {Q : State → Prop} {m m1 : Mm} {cc : ByteArray} {nL pc pc' : Nat} {ret : Option FieldType} {ls : Array Slot} {rest : List Value} {k : Nat} {r : Int32} (X : CX cLay cN D cA A p s m0 args meth c "BenchTowels$Gym" cc nL ret) (hP : va_P D vwCl (wsOf cLay cN cA A m) H) (hS : va_S (AW cN A) s.heap H locs) (hI : InjA cN A) (hk : k < 6) (hv : v_tires k  m = some (r, m1)) (hR : 1 + 1 ≤ R.frames ∧ 19 + 21 ≤ R.locals) (hs : ls.size = nL) (hW : (rest.map fun v => v.category).sum ≤ 8) (hdg : decode cc pc = .ok (.invokevirtual 76, 3)) (hpc : pc + 3 = pc')
    (kk : ∀ (H1 : Heap) (locs1 : List Loc), va_P D vwCl (wsOf cLay cN cA A m1) H1 → va_S (AW cN A) s.heap H1 locs1 → W p l e R s m0 args below meth c H1 locs1 0 0 Q (F0 m0 pc' ls (.int r :: rest))) : W p l e R s m0 args below meth c H locs 0 0 Q (F0 m0 pc ls (.ref (A (kp k)) :: rest)) := by
  unfold v_tires at hv
  rcases (show k = 0 ∨ k = 1 ∨ k = 2 ∨ k = 3 ∨ k = 4 ∨ k = 5 by omega) with rfl | rfl | rfl | rfl | rfl | rfl
  · have hv := ifp rfl hv
    exact c_U (rest := rest) "BenchTowels$Plain" X hP hS (tX6_tires hI (by decide) hv) (lt_k (by decide)) (L_kind (by decide) _) rfl wt_2_230 wt_2_233 wt_2_231 wt_2_232 wt_2_231 wt_1_4 wt_3_8 wt_3_8 hyU_X6_tires ⟨rfl, rfl⟩ ⟨Nat.le_trans (Nat.le_of_ble_eq_true rfl) hR.1, Nat.le_trans (Nat.le_of_ble_eq_true rfl) hR.2⟩ rfl hs rfl hW hdg hpc kk
  · have hv := ifn (by decide) hv
    have hv := ifp rfl hv
    exact c_U (rest := rest) "BenchTowels$Plain" X hP hS (tX0_tires hI  hv) (lt_k (by decide)) (L_kind (by decide) _) rfl wt_2_230 wt_2_233 wt_2_231 wt_2_234 wt_2_235 wt_1_5 wt_2_236 wt_3_8 hyU_X6_tires ⟨rfl, rfl⟩ ⟨Nat.le_trans (Nat.le_of_ble_eq_true rfl) hR.1, Nat.le_trans (Nat.le_of_ble_eq_true rfl) hR.2⟩ rfl hs rfl hW hdg hpc kk
  · have hv := ifn (by decide) hv
    have hv := ifn (by decide) hv
    have hv := ifp rfl hv
    exact c_U (rest := rest) "BenchTowels$Plain" X hP hS (tX9_tires hI (by decide) hv) (lt_k (by decide)) (L_kind (by decide) _) rfl wt_2_230 wt_2_233 wt_2_231 wt_3_1 wt_2_239 wt_1_6 wt_3_0 wt_3_8 hyU_X6_tires ⟨rfl, rfl⟩ ⟨Nat.le_trans (Nat.le_of_ble_eq_true rfl) hR.1, Nat.le_trans (Nat.le_of_ble_eq_true rfl) hR.2⟩ rfl hs rfl hW hdg hpc kk
  · have hv := ifn (by decide) hv
    have hv := ifn (by decide) hv
    have hv := ifn (by decide) hv
    have hv := ifp rfl hv
    exact c_U (rest := rest) "BenchTowels$Plain" X hP hS (tX9_tires hI (by decide) hv) (lt_k (by decide)) (L_kind (by decide) _) rfl wt_2_230 wt_2_233 wt_2_231 wt_2_238 wt_2_239 wt_1_6 wt_3_0 wt_3_8 hyU_X6_tires ⟨rfl, rfl⟩ ⟨Nat.le_trans (Nat.le_of_ble_eq_true rfl) hR.1, Nat.le_trans (Nat.le_of_ble_eq_true rfl) hR.2⟩ rfl hs rfl hW hdg hpc kk
  · have hv := ifn (by decide) hv
    have hv := ifn (by decide) hv
    have hv := ifn (by decide) hv
    have hv := ifn (by decide) hv
    have hv := ifp rfl hv
    exact c_U (rest := rest) "BenchTowels$Plain" X hP hS (tX6_tires hI (by decide) hv) (lt_k (by decide)) (L_kind (by decide) _) rfl wt_2_230 wt_2_233 wt_2_231 wt_2_237 wt_2_231 wt_1_4 wt_3_8 wt_3_8 hyU_X6_tires ⟨rfl, rfl⟩ ⟨Nat.le_trans (Nat.le_of_ble_eq_true rfl) hR.1, Nat.le_trans (Nat.le_of_ble_eq_true rfl) hR.2⟩ rfl hs rfl hW hdg hpc kk
  · have hv := ifn (by decide) hv
    have hv := ifn (by decide) hv
    have hv := ifn (by decide) hv
    have hv := ifn (by decide) hv
    have hv := ifn (by decide) hv
    have hv := ifp rfl hv
    exact c_U (rest := rest) "BenchTowels$Plain" X hP hS (tX10_tires hI  hv) (lt_k (by decide)) (L_kind (by decide) _) rfl wt_2_230 wt_2_233 wt_2_231 wt_3_2 wt_3_3 wt_1_9 wt_3_4 wt_3_8 hyU_X6_tires ⟨rfl, rfl⟩ ⟨Nat.le_trans (Nat.le_of_ble_eq_true rfl) hR.1, Nat.le_trans (Nat.le_of_ble_eq_true rfl) hR.2⟩ rfl hs rfl hW hdg hpc kk

def fX1_tires (i : Nat) (a1 : Int32) (m : Mm) : Option (Int32 × Mm) := gx a1 6 (gx (m (gp i 2) (ix a1)) 6 (bd (v_tires (ix (m (gp i 2) (ix a1)))  m) fun r_4 m_5 => some (r_4, m_5)))
set_option maxHeartbeats 4000000 in
set_option maxRecDepth 100000 in
theorem tX1_tires {l : Launch} {D : va_G} {cA : Nat → ClassId} {A : Nat → Nat} (hI : InjA cN A) {i : Nat} (hi : i < 8) {a1 : Int32} {m m' : Mm} {r : Int32} (h : fX1_tires i a1 m = some (r, m')) : Met0 l yX1_tires cX1_tires 2 (some .int) { frames := 2, cells := 0, slots := 0, locals := 40 } cLay cN D cA A [.ref (A (gp i 0)), .int a1] m (some (.int r)) m' := by
  refine met0_of (by decide) (Nat.le_of_ble_eq_true rfl) hI ?_
  intro p e s m0 below meth c ls X hinit hP hS hl
  generalize ([.ref (A (gp i 0)), .int a1] : List Value).toArray = args at X ⊢
  have hl : lv_has ls 2 [(0, .ref (A (gp i 0))), (1, .int a1)] := hl
  have X : CX cLay cN D cA A p s m0 args meth c "BenchTowels$Gym" cX1_tires 2 (some .int) := X
  have hx := X.1
  have hb := X.2.1
  have hml := X.2.2.1
  have hown := X.2.2.2.1
  have hts := X.2.2.2.2.1
  have hF := X.2.2.2.2.2.2.2.2.1
  rewrite [fX1_tires] at h
  refine lv_aload_n hx hb dX1_tires_0 rfl (lv_at hl 0 rfl) ?_
  refine r_get kc_1 0 X hP (lt_g hi (by decide)) (L_gym hi _) (by decide) rfl wt_1_170 dX1_tires_1 ?_
  refine lv_aload_n hx hb dX1_tires_4 rfl (lv_at hl 0 rfl) ?_
  refine r_get kc_1 2 X hP (lt_g hi (by decide)) (L_gym hi _) (by decide) rfl wt_1_172 dX1_tires_5 ?_
  refine lv_iconst (v := 0) hx hb dX1_tires_8 (by decide) ?_
  refine r_row (q' := (gp i 2)) X hP (lt_g hi (by decide)) ((Lq_g_1 hi) _) (vpc (by decide)) ixc_0 (by decide) rfl dX1_tires_9 ?_
  refine lv_iload_n hx hb dX1_tires_10 rfl (lv_at hl 1 rfl) ?_
  obtain ⟨hin_1, h⟩ := gx_some h
  refine r_iald X hP (lt_g2 (j := 0) hi (by decide)) ((La_g_row (j := 0) hi (by decide)) _) hin_1 rfl dX1_tires_11 ?_
  obtain ⟨hin_2, h⟩ := gx_some h
  have q_3 := vp_lt hin_2
  refine r_rowq 3 (q' := (kp (ix (m (gp i 2) (ix a1))))) rfl X hP (by decide) (Lq_2 _) hin_2 rfl q_3 rfl dX1_tires_12 ?_
  obtain ⟨r_4, m_5, hc_6, h⟩ := bd_some h
  refine vc_1_76 (rest := []) X hP hS hI q_3 hc_6 ⟨Nat.le_of_ble_eq_true rfl, Nat.le_of_ble_eq_true rfl⟩ hl.1 (Nat.le_of_ble_eq_true rfl) dX1_tires_13 rfl (fun H locs hP hS => ?_)
  exact r_iret X hP hS dX1_tires_16 h

def fX1_will (i : Nat) (a1 : Int32) (m : Mm) : Option (Int32 × Mm) := lt (up m (gp i 11) 0 (m (gp i 0) 6)) fun m_1 => gx a1 6 (lt (up m_1 (gp i 11) 1 (m_1 (gp i 4) (ix a1))) fun m_4 => gx (m_4 (gp i 5) (ix a1)) 3 (lt (up m_4 (gp i 11) 2 (m_4 (gp i 10) (ix (m_4 (gp i 5) (ix a1))))) fun m_7 => lt (up m_7 (gp i 11) 3 (m_7 (gp i 6) (ix a1))) fun m_9 => lt (up m_9 (gp i 11) 4 a1) fun m_11 => bd (fX8_tell (rI i) i (m_11 (gp i 2) (ix a1)) m_11) fun r_13 m_14 => some (r_13, m_14)))
set_option maxHeartbeats 4000000 in
set_option maxRecDepth 100000 in
theorem tX1_will {l : Launch} {D : va_G} {cA : Nat → ClassId} {A : Nat → Nat} (hI : InjA cN A) {i : Nat} (hi : i < 8) {a1 : Int32} {m m' : Mm} {r : Int32} (h : fX1_will i a1 m = some (r, m')) : Met0 l yX1_will cX1_will 2 (some .int) { frames := 3, cells := 0, slots := 0, locals := 74 } cLay cN D cA A [.ref (A (gp i 0)), .int a1] m (some (.int r)) m' := by
  refine met0_of (by decide) (Nat.le_of_ble_eq_true rfl) hI ?_
  intro p e s m0 below meth c ls X hinit hP hS hl
  generalize ([.ref (A (gp i 0)), .int a1] : List Value).toArray = args at X ⊢
  have hl : lv_has ls 2 [(0, .ref (A (gp i 0))), (1, .int a1)] := hl
  have X : CX cLay cN D cA A p s m0 args meth c "BenchTowels$Gym" cX1_will 2 (some .int) := X
  have hx := X.1
  have hb := X.2.1
  have hml := X.2.2.1
  have hown := X.2.2.2.1
  have hts := X.2.2.2.2.1
  have hF := X.2.2.2.2.2.2.2.2.1
  rewrite [fX1_will] at h
  refine lv_aload_n hx hb dX1_will_0 rfl (lv_at hl 0 rfl) ?_
  refine r_get kc_1 11 X hP (lt_g hi (by decide)) (L_gym hi _) (by decide) rfl wt_1_195 dX1_will_1 ?_
  refine lv_iconst (v := 0) hx hb dX1_will_4 (by decide) ?_
  refine lv_aload_n hx hb dX1_will_5 rfl (lv_at hl 0 rfl) ?_
  refine r_get kc_1 6 X hP (lt_g hi (by decide)) (L_gym hi _) (by decide) rfl wt_1_184 dX1_will_6 ?_
  obtain ⟨m_1, em_2, h⟩ := lt_some h
  refine r_iast X hP hS (lt_g hi (by decide)) (La_g_11 hi) (vpc (by decide)) ixc_0 dX1_will_9 em_2 (fun H locs hP hS => ?_)
  refine lv_aload_n hx hb dX1_will_10 rfl (lv_at hl 0 rfl) ?_
  refine r_get kc_1 11 X hP (lt_g hi (by decide)) (L_gym hi _) (by decide) rfl wt_1_195 dX1_will_11 ?_
  refine lv_iconst (v := 1) hx hb dX1_will_14 (by decide) ?_
  refine lv_aload_n hx hb dX1_will_15 rfl (lv_at hl 0 rfl) ?_
  refine r_get kc_1 2 X hP (lt_g hi (by decide)) (L_gym hi _) (by decide) rfl wt_1_172 dX1_will_16 ?_
  refine lv_iconst (v := 2) hx hb dX1_will_19 (by decide) ?_
  refine r_row (q' := (gp i 4)) X hP (lt_g hi (by decide)) ((Lq_g_1 hi) _) (vpc (by decide)) ixc_2 (by decide) rfl dX1_will_20 ?_
  refine lv_iload_n hx hb dX1_will_21 rfl (lv_at hl 1 rfl) ?_
  obtain ⟨hin_3, h⟩ := gx_some h
  refine r_iald X hP (lt_g2 (j := 2) hi (by decide)) ((La_g_row (j := 2) hi (by decide)) _) hin_3 rfl dX1_will_22 ?_
  obtain ⟨m_4, em_5, h⟩ := lt_some h
  refine r_iast X hP hS (lt_g hi (by decide)) (La_g_11 hi) (vpc (by decide)) ixc_1 dX1_will_23 em_5 (fun H locs hP hS => ?_)
  refine lv_aload_n hx hb dX1_will_24 rfl (lv_at hl 0 rfl) ?_
  refine r_get kc_1 11 X hP (lt_g hi (by decide)) (L_gym hi _) (by decide) rfl wt_1_195 dX1_will_25 ?_
  refine lv_iconst (v := 2) hx hb dX1_will_28 (by decide) ?_
  refine lv_aload_n hx hb dX1_will_29 rfl (lv_at hl 0 rfl) ?_
  refine r_get kc_1 5 X hP (lt_g hi (by decide)) (L_gym hi _) (by decide) rfl wt_1_180 dX1_will_30 ?_
  refine lv_aload_n hx hb dX1_will_33 rfl (lv_at hl 0 rfl) ?_
  refine r_get kc_1 2 X hP (lt_g hi (by decide)) (L_gym hi _) (by decide) rfl wt_1_172 dX1_will_34 ?_
  refine lv_iconst (v := 3) hx hb dX1_will_37 (by decide) ?_
  refine r_row (q' := (gp i 5)) X hP (lt_g hi (by decide)) ((Lq_g_1 hi) _) (vpc (by decide)) ixc_3 (by decide) rfl dX1_will_38 ?_
  refine lv_iload_n hx hb dX1_will_39 rfl (lv_at hl 1 rfl) ?_
  refine r_iald X hP (lt_g2 (j := 3) hi (by decide)) ((La_g_row (j := 3) hi (by decide)) _) hin_3 rfl dX1_will_40 ?_
  obtain ⟨hin_6, h⟩ := gx_some h
  refine r_iald X hP (lt_g hi (by decide)) ((La_g_10 hi) _) hin_6 rfl dX1_will_41 ?_
  obtain ⟨m_7, em_8, h⟩ := lt_some h
  refine r_iast X hP hS (lt_g hi (by decide)) (La_g_11 hi) (vpc (by decide)) ixc_2 dX1_will_42 em_8 (fun H locs hP hS => ?_)
  refine lv_aload_n hx hb dX1_will_43 rfl (lv_at hl 0 rfl) ?_
  refine r_get kc_1 11 X hP (lt_g hi (by decide)) (L_gym hi _) (by decide) rfl wt_1_195 dX1_will_44 ?_
  refine lv_iconst (v := 3) hx hb dX1_will_47 (by decide) ?_
  refine lv_aload_n hx hb dX1_will_48 rfl (lv_at hl 0 rfl) ?_
  refine r_get kc_1 2 X hP (lt_g hi (by decide)) (L_gym hi _) (by decide) rfl wt_1_172 dX1_will_49 ?_
  refine lv_iconst (v := 4) hx hb dX1_will_52 (by decide) ?_
  refine r_row (q' := (gp i 6)) X hP (lt_g hi (by decide)) ((Lq_g_1 hi) _) (vpc (by decide)) ixc_4 (by decide) rfl dX1_will_53 ?_
  refine lv_iload_n hx hb dX1_will_54 rfl (lv_at hl 1 rfl) ?_
  refine r_iald X hP (lt_g2 (j := 4) hi (by decide)) ((La_g_row (j := 4) hi (by decide)) _) hin_3 rfl dX1_will_55 ?_
  obtain ⟨m_9, em_10, h⟩ := lt_some h
  refine r_iast X hP hS (lt_g hi (by decide)) (La_g_11 hi) (vpc (by decide)) ixc_3 dX1_will_56 em_10 (fun H locs hP hS => ?_)
  refine lv_aload_n hx hb dX1_will_57 rfl (lv_at hl 0 rfl) ?_
  refine r_get kc_1 11 X hP (lt_g hi (by decide)) (L_gym hi _) (by decide) rfl wt_1_195 dX1_will_58 ?_
  refine lv_iconst (v := 4) hx hb dX1_will_61 (by decide) ?_
  refine lv_iload_n hx hb dX1_will_62 rfl (lv_at hl 1 rfl) ?_
  obtain ⟨m_11, em_12, h⟩ := lt_some h
  refine r_iast X hP hS (lt_g hi (by decide)) (La_g_11 hi) (vpc (by decide)) ixc_4 dX1_will_63 em_12 (fun H locs hP hS => ?_)
  refine lv_aload_n hx hb dX1_will_64 rfl (lv_at hl 0 rfl) ?_
  refine r_get kc_1 1 X hP (lt_g hi (by decide)) (L_gym hi _) (by decide) rfl wt_1_171 dX1_will_65 ?_
  refine lv_aload_n hx hb dX1_will_68 rfl (lv_at hl 0 rfl) ?_
  refine r_get kc_1 2 X hP (lt_g hi (by decide)) (L_gym hi _) (by decide) rfl wt_1_172 dX1_will_69 ?_
  refine lv_iconst (v := 0) hx hb dX1_will_72 (by decide) ?_
  refine r_row (q' := (gp i 2)) X hP (lt_g hi (by decide)) ((Lq_g_1 hi) _) (vpc (by decide)) ixc_0 (by decide) rfl dX1_will_73 ?_
  refine lv_iload_n hx hb dX1_will_74 rfl (lv_at hl 1 rfl) ?_
  refine r_iald X hP (lt_g2 (j := 0) hi (by decide)) ((La_g_row (j := 0) hi (by decide)) _) hin_3 rfl dX1_will_75 ?_
  refine lv_aload_n hx hb dX1_will_76 rfl (lv_at hl 0 rfl) ?_
  refine r_get kc_1 11 X hP (lt_g hi (by decide)) (L_gym hi _) (by decide) rfl wt_1_195 dX1_will_77 ?_
  obtain ⟨r_13, m_14, hc_15, h⟩ := bd_some h
  refine c_V (rest := []) X hP hS (tX8_tell hI (rI_lt hi) hi hc_15) (lt_r (rI_lt hi) (by decide)) (L_rules (rI_lt hi) _) rfl wt_3_13 wt_3_14 wt_3_15 wt_1_2 wt_3_16 ⟨rfl, hy_X8_tell⟩ ⟨rfl, rfl⟩ ⟨Nat.le_of_ble_eq_true rfl, Nat.le_of_ble_eq_true rfl⟩ rfl hl.1 rfl (Nat.le_of_ble_eq_true rfl) dX1_will_80 rfl (fun H locs hP hS => ?_)
  exact r_iret X hP hS dX1_will_83 h

def fX1_doSet_120 (i : Nat) (x1 : Int32) (x2 : Int32) (x3 : Int32) (x7 : Int32) (s0 : Int32) (s1 : Int32) (s2 : Int32) (s3 : Int32) (m : Mm) : Option (Int32 × Mm) := gx s3 3 (lt (up m (gp i 10) (ix s3) (if (s1 + s0) < s2 then (s1 + s0) else s2)) fun m_22 => gx x1 6 (lt (up m_22 (gp i 6) (ix x1) ((m_22 (gp i 6) (ix x1)) - 1)) fun m_25 => gx x3 6 (lt (up m_25 (gp i 8) (ix x3) (m_25 (gp i 4) (ix x1))) fun m_28 => lt (up m_28 (gp i 0) 10 x1) fun m_30 => (if x2 = 0 then some (x7, m_30) else some ((x7 / 2), m_30)))))
set_option maxHeartbeats 4000000 in
set_option maxRecDepth 100000 in
theorem tX1_doSet_120 (hI : InjA cN A) {i : Nat} (hi : i < 8) {r : Int32} {m' : Mm} (X : CX cLay cN D cA A p s m0 args meth c "BenchTowels$Gym" cX1_doSet 8 (some .int)) : ∀ (x1 : Int32) (x2 : Int32) (x3 : Int32) (x7 : Int32) (s0 : Int32) (s1 : Int32) (s2 : Int32) (s3 : Int32) (m : Mm) (H : Heap) (locs : List Loc) (ls : Array Slot), fX1_doSet_120 i x1 x2 x3 x7 s0 s1 s2 s3 m = some (r, m') → va_P D vwCl (wsOf cLay cN cA A m) H → va_S (AW cN A) s.heap H locs → lv_has ls 8 [(0, .ref (A (gp i 0))), (1, .int x1), (2, .int x2), (3, .int x3), (7, .int x7)] → W p l e { frames := 3, cells := 0, slots := 0, locals := 66 } s m0 args below meth c H locs 0 0 (ZR below args s cLay cN D cA A (some (.int r)) m') (F0 m0 120 ls [.int s0, .int s1, .int s2, .int s3, .ref (A (gp i 10))]) := by
  have hx := X.1
  have hb := X.2.1
  have hml := X.2.2.1
  have hown := X.2.2.2.1
  have hts := X.2.2.2.2.1
  have hF := X.2.2.2.2.2.2.2.2.1
  intro x1 x2 x3 x7 s0 s1 s2 s3 m H locs ls h hP hS hl
  rewrite [fX1_doSet_120] at h
  refine lv_iadd hx hb dX1_doSet_120 ?_
  refine va_mmin (rest := [.int s3, .ref (A (gp i 10))]) hx hb (hml.trans hl.1.symm) hown (hts _ wt_3_235) (hts _ wt_3_236) (hts _ wt_1_19) (hts _ wt_3_237) (Nat.le_of_ble_eq_true rfl) (Nat.le_of_ble_eq_true rfl) (Nat.zero_le _) (Nat.zero_le _) dX1_doSet_121 ?_
  obtain ⟨hin_21, h⟩ := gx_some h
  obtain ⟨m_22, em_23, h⟩ := lt_some h
  refine r_iast X hP hS (lt_g hi (by decide)) (La_g_10 hi) hin_21 rfl dX1_doSet_124 em_23 (fun H locs hP hS => ?_)
  refine lv_aload_n hx hb dX1_doSet_125 rfl (lv_at hl 0 rfl) ?_
  refine r_get kc_1 2 X hP (lt_g hi (by decide)) (L_gym hi _) (by decide) rfl wt_1_172 dX1_doSet_126 ?_
  refine lv_iconst (v := 4) hx hb dX1_doSet_129 (by decide) ?_
  refine r_row (q' := (gp i 6)) X hP (lt_g hi (by decide)) ((Lq_g_1 hi) _) (vpc (by decide)) ixc_4 (by decide) rfl dX1_doSet_130 ?_
  refine lv_iload_n hx hb dX1_doSet_131 rfl (lv_at hl 1 rfl) ?_
  refine lv_dup2_11 hx hb dX1_doSet_132 rfl rfl ?_
  obtain ⟨hin_24, h⟩ := gx_some h
  refine r_iald X hP (lt_g2 (j := 4) hi (by decide)) ((La_g_row (j := 4) hi (by decide)) _) hin_24 rfl dX1_doSet_133 ?_
  refine lv_iconst (v := 1) hx hb dX1_doSet_134 (by decide) ?_
  refine lv_isub hx hb dX1_doSet_135 ?_
  obtain ⟨m_25, em_26, h⟩ := lt_some h
  refine r_iast X hP hS (lt_g2 (j := 4) hi (by decide)) (La_g_row (j := 4) hi (by decide)) hin_24 rfl dX1_doSet_136 em_26 (fun H locs hP hS => ?_)
  refine lv_aload_n hx hb dX1_doSet_137 rfl (lv_at hl 0 rfl) ?_
  refine r_get kc_1 4 X hP (lt_g hi (by decide)) (L_gym hi _) (by decide) rfl wt_1_178 dX1_doSet_138 ?_
  refine lv_iconst (v := 0) hx hb dX1_doSet_141 (by decide) ?_
  refine r_row (q' := (gp i 8)) X hP (lt_g hi (by decide)) ((Lq_g_7 hi) _) (vpc (by decide)) ixc_0 (by decide) rfl dX1_doSet_142 ?_
  refine lv_iload_n hx hb dX1_doSet_143 rfl (lv_at hl 3 rfl) ?_
  refine lv_aload_n hx hb dX1_doSet_144 rfl (lv_at hl 0 rfl) ?_
  refine r_get kc_1 2 X hP (lt_g hi (by decide)) (L_gym hi _) (by decide) rfl wt_1_172 dX1_doSet_145 ?_
  refine lv_iconst (v := 2) hx hb dX1_doSet_148 (by decide) ?_
  refine r_row (q' := (gp i 4)) X hP (lt_g hi (by decide)) ((Lq_g_1 hi) _) (vpc (by decide)) ixc_2 (by decide) rfl dX1_doSet_149 ?_
  refine lv_iload_n hx hb dX1_doSet_150 rfl (lv_at hl 1 rfl) ?_
  refine r_iald X hP (lt_g2 (j := 2) hi (by decide)) ((La_g_row (j := 2) hi (by decide)) _) hin_24 rfl dX1_doSet_151 ?_
  obtain ⟨hin_27, h⟩ := gx_some h
  obtain ⟨m_28, em_29, h⟩ := lt_some h
  refine r_iast X hP hS (lt_g8 (j := 0) hi (by decide)) (La_g_mrow (j := 0) hi (by decide)) hin_27 rfl dX1_doSet_152 em_29 (fun H locs hP hS => ?_)
  refine lv_aload_n hx hb dX1_doSet_153 rfl (lv_at hl 0 rfl) ?_
  refine lv_iload_n hx hb dX1_doSet_154 rfl (lv_at hl 1 rfl) ?_
  obtain ⟨m_30, em_31, h⟩ := lt_some h
  refine r_put kc_1 10 X hP hS (lt_g hi (by decide)) (L_gym hi _) (L_gym hi _) (by decide) wt_1_192 rfl (by decide +kernel) (Nat.le_of_ble_eq_true rfl) dX1_doSet_155 em_31 (fun H locs hP hS => ?_)
  refine lv_iload_n hx hb dX1_doSet_158 rfl (lv_at hl 2 rfl) ?_
  refine lv_if_eq (tgt := 169) hx hb dX1_doSet_159 (by decide) (fun c_32 => ?_) (fun c_32 => ?_)
  · have h := ifp c_32 h
    refine lv_iload hx hb dX1_doSet_169 (lv_at hl 4 rfl) ?_
    exact r_iret X hP hS dX1_doSet_171 h
  · have h := ifn c_32 h
    refine lv_iload hx hb dX1_doSet_162 (lv_at hl 4 rfl) ?_
    refine lv_iconst (v := 2) hx hb dX1_doSet_164 (by decide) ?_
    refine lv_idiv hx hb dX1_doSet_165 (by decide) ?_
    refine lv_goto (tgt := 171) hx hb dX1_doSet_166 (by decide) ?_
    exact r_iret X hP hS dX1_doSet_171 h

def fX1_doSet (i : Nat) (a1 : Int32) (a2 : Int32) (m : Mm) : Option (Int32 × Mm) := gx a1 6 (lt (m (gp i 3) (ix a1)) fun x3_2 => lt (m (gp i 5) (ix a1)) fun x4_4 => gx x3_2 6 (lt (if (0 : Int32) ≤ ((m (gp i 8) (ix x3_2)) - (m (gp i 4) (ix a1))) then ((m (gp i 8) (ix x3_2)) - (m (gp i 4) (ix a1))) else 0 - ((m (gp i 8) (ix x3_2)) - (m (gp i 4) (ix a1)))) fun x5_7 => gx (m (gp i 2) (ix a1)) 6 (bd (v_gains (ix (m (gp i 2) (ix a1))) (m (gp i 4) (ix a1)) (m (gp i 0) 6) m) fun r_11 m_12 => gx x4_4 3 (lt (if (0 : Int32) < ((r_11 - (m_12 (gp i 10) (ix x4_4))) - (x5_7 / 3)) then ((r_11 - (m_12 (gp i 10) (ix x4_4))) - (x5_7 / 3)) else 0) fun x7_15 => (if a2 = 0 then bd (fX1_tires i a1 m_12) fun r_18 m_19 => (fX1_doSet_120 i a1 a2 x3_2 x7_15 r_18 (m_12 (gp i 10) (ix x4_4)) 9 x4_4 m_19) else (fX1_doSet_120 i a1 a2 x3_2 x7_15 1 (m_12 (gp i 10) (ix x4_4)) 9 x4_4 m_12))))))
set_option maxHeartbeats 4000000 in
set_option maxRecDepth 100000 in
theorem tX1_doSet {l : Launch} {D : va_G} {cA : Nat → ClassId} {A : Nat → Nat} (hI : InjA cN A) {i : Nat} (hi : i < 8) {a1 : Int32} {a2 : Int32} {m m' : Mm} {r : Int32} (h : fX1_doSet i a1 a2 m = some (r, m')) : Met0 l yX1_doSet cX1_doSet 8 (some .int) { frames := 3, cells := 0, slots := 0, locals := 66 } cLay cN D cA A [.ref (A (gp i 0)), .int a1, .int a2] m (some (.int r)) m' := by
  refine met0_of (by decide) (Nat.le_of_ble_eq_true rfl) hI ?_
  intro p e s m0 below meth c ls X hinit hP hS hl
  generalize ([.ref (A (gp i 0)), .int a1, .int a2] : List Value).toArray = args at X ⊢
  have hl : lv_has ls 8 [(0, .ref (A (gp i 0))), (1, .int a1), (2, .int a2)] := hl
  have X : CX cLay cN D cA A p s m0 args meth c "BenchTowels$Gym" cX1_doSet 8 (some .int) := X
  have hx := X.1
  have hb := X.2.1
  have hml := X.2.2.1
  have hown := X.2.2.2.1
  have hts := X.2.2.2.2.1
  have hF := X.2.2.2.2.2.2.2.2.1
  rewrite [fX1_doSet] at h
  refine lv_aload_n hx hb dX1_doSet_0 rfl (lv_at hl 0 rfl) ?_
  refine r_get kc_1 2 X hP (lt_g hi (by decide)) (L_gym hi _) (by decide) rfl wt_1_172 dX1_doSet_1 ?_
  refine lv_iconst (v := 1) hx hb dX1_doSet_4 (by decide) ?_
  refine r_row (q' := (gp i 3)) X hP (lt_g hi (by decide)) ((Lq_g_1 hi) _) (vpc (by decide)) ixc_1 (by decide) rfl dX1_doSet_5 ?_
  refine lv_iload_n hx hb dX1_doSet_6 rfl (lv_at hl 1 rfl) ?_
  obtain ⟨hin_1, h⟩ := gx_some h
  refine r_iald X hP (lt_g2 (j := 1) hi (by decide)) ((La_g_row (j := 1) hi (by decide)) _) hin_1 rfl dX1_doSet_7 ?_
  obtain ⟨x3_2, ex_3, h⟩ := lt_some h
  refine lv_ren ex_3 ?_
  refine lv_istore_n (lv' := [(3, .int x3_2), (0, .ref (A (gp i 0))), (1, .int a1), (2, .int a2)]) hx hb dX1_doSet_8 rfl hl (by decide) rfl (fun ls hl => ?_)
  refine lv_aload_n hx hb dX1_doSet_9 rfl (lv_at hl 1 rfl) ?_
  refine r_get kc_1 2 X hP (lt_g hi (by decide)) (L_gym hi _) (by decide) rfl wt_1_172 dX1_doSet_10 ?_
  refine lv_iconst (v := 3) hx hb dX1_doSet_13 (by decide) ?_
  refine r_row (q' := (gp i 5)) X hP (lt_g hi (by decide)) ((Lq_g_1 hi) _) (vpc (by decide)) ixc_3 (by decide) rfl dX1_doSet_14 ?_
  refine lv_iload_n hx hb dX1_doSet_15 rfl (lv_at hl 2 rfl) ?_
  refine r_iald X hP (lt_g2 (j := 3) hi (by decide)) ((La_g_row (j := 3) hi (by decide)) _) hin_1 rfl dX1_doSet_16 ?_
  obtain ⟨x4_4, ex_5, h⟩ := lt_some h
  refine lv_ren ex_5 ?_
  refine lv_istore (lv' := [(4, .int x4_4), (3, .int x3_2), (0, .ref (A (gp i 0))), (1, .int a1), (2, .int a2)]) hx hb dX1_doSet_17 hl (by decide) rfl (fun ls hl => ?_)
  refine lv_aload_n hx hb dX1_doSet_19 rfl (lv_at hl 2 rfl) ?_
  refine r_get kc_1 4 X hP (lt_g hi (by decide)) (L_gym hi _) (by decide) rfl wt_1_178 dX1_doSet_20 ?_
  refine lv_iconst (v := 0) hx hb dX1_doSet_23 (by decide) ?_
  refine r_row (q' := (gp i 8)) X hP (lt_g hi (by decide)) ((Lq_g_7 hi) _) (vpc (by decide)) ixc_0 (by decide) rfl dX1_doSet_24 ?_
  refine lv_iload_n hx hb dX1_doSet_25 rfl (lv_at hl 1 rfl) ?_
  obtain ⟨hin_6, h⟩ := gx_some h
  refine r_iald X hP (lt_g8 (j := 0) hi (by decide)) ((La_g_mrow (j := 0) hi (by decide)) _) hin_6 rfl dX1_doSet_26 ?_
  refine lv_aload_n hx hb dX1_doSet_27 rfl (lv_at hl 2 rfl) ?_
  refine r_get kc_1 2 X hP (lt_g hi (by decide)) (L_gym hi _) (by decide) rfl wt_1_172 dX1_doSet_28 ?_
  refine lv_iconst (v := 2) hx hb dX1_doSet_31 (by decide) ?_
  refine r_row (q' := (gp i 4)) X hP (lt_g hi (by decide)) ((Lq_g_1 hi) _) (vpc (by decide)) ixc_2 (by decide) rfl dX1_doSet_32 ?_
  refine lv_iload_n hx hb dX1_doSet_33 rfl (lv_at hl 3 rfl) ?_
  refine r_iald X hP (lt_g2 (j := 2) hi (by decide)) ((La_g_row (j := 2) hi (by decide)) _) hin_1 rfl dX1_doSet_34 ?_
  refine lv_isub hx hb dX1_doSet_35 ?_
  refine va_mabs (rest := []) hx hb (hml.trans hl.1.symm) hown (hts _ wt_3_228) (hts _ wt_3_229) (hts _ wt_1_19) (hts _ wt_3_230) (Nat.le_of_ble_eq_true rfl) (Nat.le_of_ble_eq_true rfl) (Nat.zero_le _) (Nat.zero_le _) dX1_doSet_36 ?_
  obtain ⟨x5_7, ex_8, h⟩ := lt_some h
  refine lv_ren ex_8 ?_
  refine lv_istore (lv' := [(5, .int x5_7), (4, .int x4_4), (3, .int x3_2), (0, .ref (A (gp i 0))), (1, .int a1), (2, .int a2)]) hx hb dX1_doSet_39 hl (by decide) rfl (fun ls hl => ?_)
  refine lv_aload_n hx hb dX1_doSet_41 rfl (lv_at hl 3 rfl) ?_
  refine r_get kc_1 0 X hP (lt_g hi (by decide)) (L_gym hi _) (by decide) rfl wt_1_170 dX1_doSet_42 ?_
  refine lv_aload_n hx hb dX1_doSet_45 rfl (lv_at hl 3 rfl) ?_
  refine r_get kc_1 2 X hP (lt_g hi (by decide)) (L_gym hi _) (by decide) rfl wt_1_172 dX1_doSet_46 ?_
  refine lv_iconst (v := 0) hx hb dX1_doSet_49 (by decide) ?_
  refine r_row (q' := (gp i 2)) X hP (lt_g hi (by decide)) ((Lq_g_1 hi) _) (vpc (by decide)) ixc_0 (by decide) rfl dX1_doSet_50 ?_
  refine lv_iload_n hx hb dX1_doSet_51 rfl (lv_at hl 4 rfl) ?_
  refine r_iald X hP (lt_g2 (j := 0) hi (by decide)) ((La_g_row (j := 0) hi (by decide)) _) hin_1 rfl dX1_doSet_52 ?_
  obtain ⟨hin_9, h⟩ := gx_some h
  have q_10 := vp_lt hin_9
  refine r_rowq 3 (q' := (kp (ix (m (gp i 2) (ix a1))))) rfl X hP (by decide) (Lq_2 _) hin_9 rfl q_10 rfl dX1_doSet_53 ?_
  refine lv_aload_n hx hb dX1_doSet_54 rfl (lv_at hl 3 rfl) ?_
  refine r_get kc_1 2 X hP (lt_g hi (by decide)) (L_gym hi _) (by decide) rfl wt_1_172 dX1_doSet_55 ?_
  refine lv_iconst (v := 2) hx hb dX1_doSet_58 (by decide) ?_
  refine r_row (q' := (gp i 4)) X hP (lt_g hi (by decide)) ((Lq_g_1 hi) _) (vpc (by decide)) ixc_2 (by decide) rfl dX1_doSet_59 ?_
  refine lv_iload_n hx hb dX1_doSet_60 rfl (lv_at hl 4 rfl) ?_
  refine r_iald X hP (lt_g2 (j := 2) hi (by decide)) ((La_g_row (j := 2) hi (by decide)) _) hin_1 rfl dX1_doSet_61 ?_
  refine lv_aload_n hx hb dX1_doSet_62 rfl (lv_at hl 3 rfl) ?_
  refine r_get kc_1 6 X hP (lt_g hi (by decide)) (L_gym hi _) (by decide) rfl wt_1_184 dX1_doSet_63 ?_
  obtain ⟨r_11, m_12, hc_13, h⟩ := bd_some h
  refine vc_1_72 (rest := []) X hP hS hI q_10 hc_13 ⟨Nat.le_of_ble_eq_true rfl, Nat.le_of_ble_eq_true rfl⟩ hl.1 (Nat.le_of_ble_eq_true rfl) dX1_doSet_66 rfl (fun H locs hP hS => ?_)
  refine lv_istore (lv' := [(6, .int r_11), (5, .int x5_7), (4, .int x4_4), (3, .int x3_2), (0, .ref (A (gp i 0))), (1, .int a1), (2, .int a2)]) hx hb dX1_doSet_69 hl (by decide) rfl (fun ls hl => ?_)
  refine lv_iconst (v := 0) hx hb dX1_doSet_71 (by decide) ?_
  refine lv_iload hx hb dX1_doSet_72 (lv_at hl 0 rfl) ?_
  refine lv_aload_n hx hb dX1_doSet_74 rfl (lv_at hl 4 rfl) ?_
  refine r_get kc_1 5 X hP (lt_g hi (by decide)) (L_gym hi _) (by decide) rfl wt_1_180 dX1_doSet_75 ?_
  refine lv_iload hx hb dX1_doSet_78 (lv_at hl 2 rfl) ?_
  obtain ⟨hin_14, h⟩ := gx_some h
  refine r_iald X hP (lt_g hi (by decide)) ((La_g_10 hi) _) hin_14 rfl dX1_doSet_80 ?_
  refine lv_isub hx hb dX1_doSet_81 ?_
  refine lv_iload hx hb dX1_doSet_82 (lv_at hl 1 rfl) ?_
  refine lv_iconst (v := 3) hx hb dX1_doSet_84 (by decide) ?_
  refine lv_idiv hx hb dX1_doSet_85 (by decide) ?_
  refine lv_isub hx hb dX1_doSet_86 ?_
  refine va_mmax (rest := []) hx hb (hml.trans hl.1.symm) hown (hts _ wt_3_231) (hts _ wt_3_232) (hts _ wt_1_19) (hts _ wt_3_233) (Nat.le_of_ble_eq_true rfl) (Nat.le_of_ble_eq_true rfl) (Nat.zero_le _) (Nat.zero_le _) dX1_doSet_87 ?_
  obtain ⟨x7_15, ex_16, h⟩ := lt_some h
  refine lv_ren ex_16 ?_
  refine lv_istore (lv' := [(7, .int x7_15), (6, .int r_11), (5, .int x5_7), (4, .int x4_4), (3, .int x3_2), (0, .ref (A (gp i 0))), (1, .int a1), (2, .int a2)]) hx hb dX1_doSet_90 hl (by decide) rfl (fun ls hl => ?_)
  refine lv_aload_n hx hb dX1_doSet_92 rfl (lv_at hl 5 rfl) ?_
  refine r_get kc_1 5 X hP (lt_g hi (by decide)) (L_gym hi _) (by decide) rfl wt_1_180 dX1_doSet_93 ?_
  refine lv_iload hx hb dX1_doSet_96 (lv_at hl 3 rfl) ?_
  refine lv_bipush (v := 9) hx hb dX1_doSet_98 (by decide) ?_
  refine lv_aload_n hx hb dX1_doSet_100 rfl (lv_at hl 5 rfl) ?_
  refine r_get kc_1 5 X hP (lt_g hi (by decide)) (L_gym hi _) (by decide) rfl wt_1_180 dX1_doSet_101 ?_
  refine lv_iload hx hb dX1_doSet_104 (lv_at hl 3 rfl) ?_
  refine r_iald X hP (lt_g hi (by decide)) ((La_g_10 hi) _) hin_14 rfl dX1_doSet_106 ?_
  refine lv_iload_n hx hb dX1_doSet_107 rfl (lv_at hl 7 rfl) ?_
  refine lv_if_eq (tgt := 115) hx hb dX1_doSet_108 (by decide) (fun c_17 => ?_) (fun c_17 => ?_)
  · have h := ifp c_17 h
    refine lv_aload_n hx hb dX1_doSet_115 rfl (lv_at hl 5 rfl) ?_
    refine lv_iload_n hx hb dX1_doSet_116 rfl (lv_at hl 6 rfl) ?_
    obtain ⟨r_18, m_19, hc_20, h⟩ := bd_some h
    refine c_V (rest := [.int (m_12 (gp i 10) (ix x4_4)), .int 9, .int x4_4, .ref (A (gp i 10))]) X hP hS (tX1_tires hI hi hc_20) (lt_g hi (by decide)) (L_gym hi _) rfl wt_3_234 wt_2_227 wt_2_228 wt_1_10 wt_2_229 ⟨rfl, hy_X1_tires⟩ ⟨rfl, rfl⟩ ⟨Nat.le_of_ble_eq_true rfl, Nat.le_of_ble_eq_true rfl⟩ rfl hl.1 rfl (Nat.le_of_ble_eq_true rfl) dX1_doSet_117 rfl (fun H locs hP hS => ?_)
    exact tX1_doSet_120 hI hi   X a1 a2 x3_2 x7_15 r_18 (m_12 (gp i 10) (ix x4_4)) 9 x4_4 m_19 _ _ _  h hP hS (lv_sub hl [5, 6, 7, 4, 0] rfl)
  · have h := ifn c_17 h
    refine lv_iconst (v := 1) hx hb dX1_doSet_111 (by decide) ?_
    refine lv_goto (tgt := 120) hx hb dX1_doSet_112 (by decide) ?_
    exact tX1_doSet_120 hI hi   X a1 a2 x3_2 x7_15 1 (m_12 (gp i 10) (ix x4_4)) 9 x4_4 m_12 _ _ _  h hP hS (lv_sub hl [5, 6, 7, 4, 0] rfl)

def fX1_goBy_101 (i : Nat) : Nat → Int32 → Int32 → Int32 → Mm → Option (Int32 × Mm)
  | 0, _, _, _, _ => none
  | n + 1, x3, x4, x5, m => (if (3 : Int32) ≤ x5 then lt (up m (gp i 0) 6 ((m (gp i 0) 6) + 1)) fun m_11 => lt (up m_11 (gp i 0) 8 ((m_11 (gp i 0) 8) + x3)) fun m_13 => some (x3, m_13) else (if x5 = x4 then lt ((x5 : Int32) + 1) fun x5_16 => (fX1_goBy_101 i n x3 x4 x5_16 m) else gx x5 3 ((if (m (gp i 10) (ix x5)) ≤ 0 then lt ((x5 : Int32) + 1) fun x5_20 => (fX1_goBy_101 i n x3 x4 x5_20 m) else lt (up m (gp i 10) (ix x5) ((m (gp i 10) (ix x5)) - 1)) fun m_22 => lt ((x5 : Int32) + 1) fun x5_24 => (fX1_goBy_101 i n x3 x4 x5_24 m_22)))))
set_option maxHeartbeats 4000000 in
set_option maxRecDepth 100000 in
theorem tX1_goBy_101 (hI : InjA cN A) {i : Nat} (hi : i < 8) {r : Int32} {m' : Mm} (X : CX cLay cN D cA A p s m0 args meth c "BenchTowels$Gym" cX1_goBy 6 (some .int)) : ∀ (n : Nat) (x3 : Int32) (x4 : Int32) (x5 : Int32) (m : Mm) (H : Heap) (locs : List Loc) (ls : Array Slot), fX1_goBy_101 i n x3 x4 x5 m = some (r, m') → va_P D vwCl (wsOf cLay cN cA A m) H → va_S (AW cN A) s.heap H locs → lv_has ls 6 [(0, .ref (A (gp i 0))), (3, .int x3), (4, .int x4), (5, .int x5)] → W p l e { frames := 4, cells := 0, slots := 0, locals := 95 } s m0 args below meth c H locs 0 0 (ZR below args s cLay cN D cA A (some (.int r)) m') (F0 m0 101 ls []) := by
  have hx := X.1
  have hb := X.2.1
  have hml := X.2.2.1
  have hown := X.2.2.2.1
  have hts := X.2.2.2.2.1
  have hF := X.2.2.2.2.2.2.2.2.1
  intro n
  induction n with
  | zero =>
    intro x3 x4 x5 m H locs ls h hP hS hl
    exact absurd h (by rewrite [fX1_goBy_101]; exact fun q => by cases q)
  | succ n ih =>
    intro x3 x4 x5 m H locs ls h hP hS hl
    rewrite [fX1_goBy_101] at h
    refine lv_iload hx hb dX1_goBy_101 (lv_at hl 3 rfl) ?_
    refine lv_iconst (v := 3) hx hb dX1_goBy_103 (by decide) ?_
    refine lv_icmp_ge (tgt := 141) hx hb dX1_goBy_104 (by decide) (fun c_10 => ?_) (fun c_10 => ?_)
    · have h := ifp c_10 h
      refine lv_aload_n hx hb dX1_goBy_141 rfl (lv_at hl 0 rfl) ?_
      refine lv_dup hx hb dX1_goBy_142 rfl ?_
      refine r_get kc_1 6 X hP (lt_g hi (by decide)) (L_gym hi _) (by decide) rfl wt_1_184 dX1_goBy_143 ?_
      refine lv_iconst (v := 1) hx hb dX1_goBy_146 (by decide) ?_
      refine lv_iadd hx hb dX1_goBy_147 ?_
      obtain ⟨m_11, em_12, h⟩ := lt_some h
      refine r_put kc_1 6 X hP hS (lt_g hi (by decide)) (L_gym hi _) (L_gym hi _) (by decide) wt_1_184 rfl (by decide +kernel) (Nat.le_of_ble_eq_true rfl) dX1_goBy_148 em_12 (fun H locs hP hS => ?_)
      refine lv_aload_n hx hb dX1_goBy_151 rfl (lv_at hl 0 rfl) ?_
      refine lv_dup hx hb dX1_goBy_152 rfl ?_
      refine r_get kc_1 8 X hP (lt_g hi (by decide)) (L_gym hi _) (by decide) rfl wt_1_188 dX1_goBy_153 ?_
      refine lv_iload_n hx hb dX1_goBy_156 rfl (lv_at hl 1 rfl) ?_
      refine lv_iadd hx hb dX1_goBy_157 ?_
      obtain ⟨m_13, em_14, h⟩ := lt_some h
      refine r_put kc_1 8 X hP hS (lt_g hi (by decide)) (L_gym hi _) (L_gym hi _) (by decide) wt_1_188 rfl (by decide +kernel) (Nat.le_of_ble_eq_true rfl) dX1_goBy_158 em_14 (fun H locs hP hS => ?_)
      refine lv_iload_n hx hb dX1_goBy_161 rfl (lv_at hl 1 rfl) ?_
      exact r_iret X hP hS dX1_goBy_162 h
    · have h := ifn c_10 h
      refine lv_iload hx hb dX1_goBy_107 (lv_at hl 3 rfl) ?_
      refine lv_iload hx hb dX1_goBy_109 (lv_at hl 2 rfl) ?_
      refine lv_icmp_eq (tgt := 135) hx hb dX1_goBy_111 (by decide) (fun c_15 => ?_) (fun c_15 => ?_)
      · have h := ifp c_15 h
        obtain ⟨x5_16, ex_17, h⟩ := lt_some h
        refine lv_iinc (v := x5_16) (lv' := [(5, .int x5_16), (0, .ref (A (gp i 0))), (3, .int x3), (4, .int x4)]) hx hb dX1_goBy_135 hl (k := 3) rfl (by rw [ex_17]; rfl) (by decide) rfl (fun ls hl => ?_)
        refine lv_goto (tgt := 101) hx hb dX1_goBy_138 (by decide) ?_
        exact ih x3 x4 x5_16 m _ _ _  h hP hS (lv_sub hl [1, 2, 3, 0] rfl)
      · have h := ifn c_15 h
        refine lv_aload_n hx hb dX1_goBy_114 rfl (lv_at hl 0 rfl) ?_
        refine r_get kc_1 5 X hP (lt_g hi (by decide)) (L_gym hi _) (by decide) rfl wt_1_180 dX1_goBy_115 ?_
        refine lv_iload hx hb dX1_goBy_118 (lv_at hl 3 rfl) ?_
        obtain ⟨hin_18, h⟩ := gx_some h
        refine r_iald X hP (lt_g hi (by decide)) ((La_g_10 hi) _) hin_18 rfl dX1_goBy_120 ?_
        refine lv_if_le (tgt := 135) hx hb dX1_goBy_121 (by decide) (fun c_19 => ?_) (fun c_19 => ?_)
        · have h := ifp c_19 h
          obtain ⟨x5_20, ex_21, h⟩ := lt_some h
          refine lv_iinc (v := x5_20) (lv' := [(5, .int x5_20), (0, .ref (A (gp i 0))), (3, .int x3), (4, .int x4)]) hx hb dX1_goBy_135 hl (k := 3) rfl (by rw [ex_21]; rfl) (by decide) rfl (fun ls hl => ?_)
          refine lv_goto (tgt := 101) hx hb dX1_goBy_138 (by decide) ?_
          exact ih x3 x4 x5_20 m _ _ _  h hP hS (lv_sub hl [1, 2, 3, 0] rfl)
        · have h := ifn c_19 h
          refine lv_aload_n hx hb dX1_goBy_124 rfl (lv_at hl 0 rfl) ?_
          refine r_get kc_1 5 X hP (lt_g hi (by decide)) (L_gym hi _) (by decide) rfl wt_1_180 dX1_goBy_125 ?_
          refine lv_iload hx hb dX1_goBy_128 (lv_at hl 3 rfl) ?_
          refine lv_dup2_11 hx hb dX1_goBy_130 rfl rfl ?_
          refine r_iald X hP (lt_g hi (by decide)) ((La_g_10 hi) _) hin_18 rfl dX1_goBy_131 ?_
          refine lv_iconst (v := 1) hx hb dX1_goBy_132 (by decide) ?_
          refine lv_isub hx hb dX1_goBy_133 ?_
          obtain ⟨m_22, em_23, h⟩ := lt_some h
          refine r_iast X hP hS (lt_g hi (by decide)) (La_g_10 hi) hin_18 rfl dX1_goBy_134 em_23 (fun H locs hP hS => ?_)
          obtain ⟨x5_24, ex_25, h⟩ := lt_some h
          refine lv_iinc (v := x5_24) (lv' := [(5, .int x5_24), (0, .ref (A (gp i 0))), (3, .int x3), (4, .int x4)]) hx hb dX1_goBy_135 hl (k := 3) rfl (by rw [ex_25]; rfl) (by decide) rfl (fun ls hl => ?_)
          refine lv_goto (tgt := 101) hx hb dX1_goBy_138 (by decide) ?_
          exact ih x3 x4 x5_24 m_22 _ _ _  h hP hS (lv_sub hl [1, 2, 3, 0] rfl)

def fX1_goBy_73 (i : Nat) (x3 : Int32) (m : Mm) : Option (Int32 × Mm) := (if (m (gp i 0) 10) < 0 then (fX1_goBy_101 i FL x3 (-3) 0 m) else gx (m (gp i 0) 10) 6 (lt (m (gp i 5) (ix (m (gp i 0) 10))) fun x4_27 => (fX1_goBy_101 i FL x3 x4_27 0 m)))
set_option maxHeartbeats 4000000 in
set_option maxRecDepth 100000 in
theorem tX1_goBy_73 (hI : InjA cN A) {i : Nat} (hi : i < 8) {r : Int32} {m' : Mm} (X : CX cLay cN D cA A p s m0 args meth c "BenchTowels$Gym" cX1_goBy 6 (some .int)) : ∀ (x3 : Int32) (m : Mm) (H : Heap) (locs : List Loc) (ls : Array Slot), fX1_goBy_73 i x3 m = some (r, m') → va_P D vwCl (wsOf cLay cN cA A m) H → va_S (AW cN A) s.heap H locs → lv_has ls 6 [(0, .ref (A (gp i 0))), (3, .int x3)] → W p l e { frames := 4, cells := 0, slots := 0, locals := 95 } s m0 args below meth c H locs 0 0 (ZR below args s cLay cN D cA A (some (.int r)) m') (F0 m0 73 ls []) := by
  have hx := X.1
  have hb := X.2.1
  have hml := X.2.2.1
  have hown := X.2.2.2.1
  have hts := X.2.2.2.2.1
  have hF := X.2.2.2.2.2.2.2.2.1
  intro x3 m H locs ls h hP hS hl
  rewrite [fX1_goBy_73] at h
  refine lv_aload_n hx hb dX1_goBy_73 rfl (lv_at hl 0 rfl) ?_
  refine r_get kc_1 10 X hP (lt_g hi (by decide)) (L_gym hi _) (by decide) rfl wt_1_192 dX1_goBy_74 ?_
  refine lv_if_lt (tgt := 94) hx hb dX1_goBy_77 (by decide) (fun c_9 => ?_) (fun c_9 => ?_)
  · have h := ifp c_9 h
    refine lv_bipush (v := (-3)) hx hb dX1_goBy_94 (by decide) ?_
    refine lv_istore (lv' := [(4, .int (-3)), (0, .ref (A (gp i 0))), (3, .int x3)]) hx hb dX1_goBy_96 hl (by decide) rfl (fun ls hl => ?_)
    refine lv_iconst (v := 0) hx hb dX1_goBy_98 (by decide) ?_
    refine lv_istore (lv' := [(5, .int 0), (4, .int (-3)), (0, .ref (A (gp i 0))), (3, .int x3)]) hx hb dX1_goBy_99 hl (by decide) rfl (fun ls hl => ?_)
    exact tX1_goBy_101 hI hi   X FL x3 (-3) 0 m _ _ _  h hP hS (lv_sub hl [2, 3, 1, 0] rfl)
  · have h := ifn c_9 h
    refine lv_aload_n hx hb dX1_goBy_80 rfl (lv_at hl 0 rfl) ?_
    refine r_get kc_1 2 X hP (lt_g hi (by decide)) (L_gym hi _) (by decide) rfl wt_1_172 dX1_goBy_81 ?_
    refine lv_iconst (v := 3) hx hb dX1_goBy_84 (by decide) ?_
    refine r_row (q' := (gp i 5)) X hP (lt_g hi (by decide)) ((Lq_g_1 hi) _) (vpc (by decide)) ixc_3 (by decide) rfl dX1_goBy_85 ?_
    refine lv_aload_n hx hb dX1_goBy_86 rfl (lv_at hl 0 rfl) ?_
    refine r_get kc_1 10 X hP (lt_g hi (by decide)) (L_gym hi _) (by decide) rfl wt_1_192 dX1_goBy_87 ?_
    obtain ⟨hin_26, h⟩ := gx_some h
    refine r_iald X hP (lt_g2 (j := 3) hi (by decide)) ((La_g_row (j := 3) hi (by decide)) _) hin_26 rfl dX1_goBy_90 ?_
    refine lv_goto (tgt := 96) hx hb dX1_goBy_91 (by decide) ?_
    obtain ⟨x4_27, ex_28, h⟩ := lt_some h
    refine lv_ren ex_28 ?_
    refine lv_istore (lv' := [(4, .int x4_27), (0, .ref (A (gp i 0))), (3, .int x3)]) hx hb dX1_goBy_96 hl (by decide) rfl (fun ls hl => ?_)
    refine lv_iconst (v := 0) hx hb dX1_goBy_98 (by decide) ?_
    refine lv_istore (lv' := [(5, .int 0), (4, .int x4_27), (0, .ref (A (gp i 0))), (3, .int x3)]) hx hb dX1_goBy_99 hl (by decide) rfl (fun ls hl => ?_)
    exact tX1_goBy_101 hI hi   X FL x3 x4_27 0 m _ _ _  h hP hS (lv_sub hl [2, 3, 1, 0] rfl)

def fX1_goBy_69 (i : Nat) (s0 : Int32) (s1 : Int32) (m : Mm) : Option (Int32 × Mm) := bd (fX1_doSet i s1 s0 m) fun r_40 m_41 => (fX1_goBy_73 i r_40 m_41)
set_option maxHeartbeats 4000000 in
set_option maxRecDepth 100000 in
theorem tX1_goBy_69 (hI : InjA cN A) {i : Nat} (hi : i < 8) {r : Int32} {m' : Mm} (X : CX cLay cN D cA A p s m0 args meth c "BenchTowels$Gym" cX1_goBy 6 (some .int)) : ∀ (s0 : Int32) (s1 : Int32) (m : Mm) (H : Heap) (locs : List Loc) (ls : Array Slot), fX1_goBy_69 i s0 s1 m = some (r, m') → va_P D vwCl (wsOf cLay cN cA A m) H → va_S (AW cN A) s.heap H locs → lv_has ls 6 [(0, .ref (A (gp i 0)))] → W p l e { frames := 4, cells := 0, slots := 0, locals := 95 } s m0 args below meth c H locs 0 0 (ZR below args s cLay cN D cA A (some (.int r)) m') (F0 m0 69 ls [.int s0, .int s1, .ref (A (gp i 0))]) := by
  have hx := X.1
  have hb := X.2.1
  have hml := X.2.2.1
  have hown := X.2.2.2.1
  have hts := X.2.2.2.2.1
  have hF := X.2.2.2.2.2.2.2.2.1
  intro s0 s1 m H locs ls h hP hS hl
  rewrite [fX1_goBy_69] at h
  obtain ⟨r_40, m_41, hc_42, h⟩ := bd_some h
  refine c_V (rest := []) X hP hS (tX1_doSet hI hi hc_42) (lt_g hi (by decide)) (L_gym hi _) rfl wt_3_224 wt_3_225 wt_3_226 wt_1_10 wt_3_227 ⟨rfl, hy_X1_doSet⟩ ⟨rfl, rfl⟩ ⟨Nat.le_of_ble_eq_true rfl, Nat.le_of_ble_eq_true rfl⟩ rfl hl.1 rfl (Nat.le_of_ble_eq_true rfl) dX1_goBy_69 rfl (fun H locs hP hS => ?_)
  refine lv_istore_n (lv' := [(3, .int r_40), (0, .ref (A (gp i 0)))]) hx hb dX1_goBy_72 rfl hl (by decide) rfl (fun ls hl => ?_)
  exact tX1_goBy_73 hI hi   X r_40 m_41 _ _ _  h hP hS (lv_sub hl [1, 0] rfl)

def fX1_goBy (i : Nat) (a1 : Int32) (m : Mm) : Option (Int32 × Mm) := lt (a1 - 1) fun x2_1 => lt (up m (gp i 0) 10 (-3)) fun m_3 => bd (fX1_has i x2_1 m_3) fun r_5 m_6 => (if r_5 = 0 then fX1_goBy_73 i 0 m_6 else gx x2_1 6 ((if (m_6 (gp i 6) (ix x2_1)) ≤ 0 then fX1_goBy_73 i 0 m_6 else bd (fX1_mayIn i x2_1 (m_6 (gp i 0) 6) m_6) fun r_31 m_32 => (if r_31 = 0 then fX1_goBy_73 i 0 m_32 else bd (fX1_will i x2_1 m_32) fun r_35 m_36 => (if r_35 = 2 then fX1_goBy_73 i 0 m_36 else (if r_35 = 1 then (fX1_goBy_69 i 1 x2_1 m_36) else (fX1_goBy_69 i 0 x2_1 m_36)))))))
set_option maxHeartbeats 4000000 in
set_option maxRecDepth 100000 in
theorem tX1_goBy {l : Launch} {D : va_G} {cA : Nat → ClassId} {A : Nat → Nat} (hI : InjA cN A) {i : Nat} (hi : i < 8) {a1 : Int32} {m m' : Mm} {r : Int32} (h : fX1_goBy i a1 m = some (r, m')) : Met0 l yX1_goBy cX1_goBy 6 (some .int) { frames := 4, cells := 0, slots := 0, locals := 95 } cLay cN D cA A [.ref (A (gp i 0)), .int a1] m (some (.int r)) m' := by
  refine met0_of (by decide) (Nat.le_of_ble_eq_true rfl) hI ?_
  intro p e s m0 below meth c ls X hinit hP hS hl
  generalize ([.ref (A (gp i 0)), .int a1] : List Value).toArray = args at X ⊢
  have hl : lv_has ls 6 [(0, .ref (A (gp i 0))), (1, .int a1)] := hl
  have X : CX cLay cN D cA A p s m0 args meth c "BenchTowels$Gym" cX1_goBy 6 (some .int) := X
  have hx := X.1
  have hb := X.2.1
  have hml := X.2.2.1
  have hown := X.2.2.2.1
  have hts := X.2.2.2.2.1
  have hF := X.2.2.2.2.2.2.2.2.1
  rewrite [fX1_goBy] at h
  refine lv_iload_n hx hb dX1_goBy_0 rfl (lv_at hl 1 rfl) ?_
  refine lv_iconst (v := 1) hx hb dX1_goBy_1 (by decide) ?_
  refine lv_isub hx hb dX1_goBy_2 ?_
  obtain ⟨x2_1, ex_2, h⟩ := lt_some h
  refine lv_ren ex_2 ?_
  refine lv_istore_n (lv' := [(2, .int x2_1), (0, .ref (A (gp i 0))), (1, .int a1)]) hx hb dX1_goBy_3 rfl hl (by decide) rfl (fun ls hl => ?_)
  refine lv_iconst (v := 0) hx hb dX1_goBy_4 (by decide) ?_
  refine lv_istore_n (lv' := [(3, .int 0), (2, .int x2_1), (0, .ref (A (gp i 0))), (1, .int a1)]) hx hb dX1_goBy_5 rfl hl (by decide) rfl (fun ls hl => ?_)
  refine lv_aload_n hx hb dX1_goBy_6 rfl (lv_at hl 2 rfl) ?_
  refine lv_bipush (v := (-3)) hx hb dX1_goBy_7 (by decide) ?_
  obtain ⟨m_3, em_4, h⟩ := lt_some h
  refine r_put kc_1 10 X hP hS (lt_g hi (by decide)) (L_gym hi _) (L_gym hi _) (by decide) wt_1_192 rfl (by decide +kernel) (Nat.le_of_ble_eq_true rfl) dX1_goBy_9 em_4 (fun H locs hP hS => ?_)
  refine lv_aload_n hx hb dX1_goBy_12 rfl (lv_at hl 2 rfl) ?_
  refine lv_iload_n hx hb dX1_goBy_13 rfl (lv_at hl 1 rfl) ?_
  obtain ⟨r_5, m_6, hc_7, h⟩ := bd_some h
  refine c_V (rest := []) X hP hS (tX1_has hI hi hc_7) (lt_g hi (by decide)) (L_gym hi _) rfl wt_3_222 wt_2_161 wt_2_162 wt_1_10 wt_2_163 ⟨rfl, hy_X1_has⟩ ⟨rfl, rfl⟩ ⟨Nat.le_of_ble_eq_true rfl, Nat.le_of_ble_eq_true rfl⟩ rfl hl.1 rfl (Nat.le_of_ble_eq_true rfl) dX1_goBy_14 rfl (fun H locs hP hS => ?_)
  refine lv_if_eq (tgt := 73) hx hb dX1_goBy_17 (by decide) (fun c_8 => ?_) (fun c_8 => ?_)
  · have h := ifp c_8 h
    exact tX1_goBy_73 hI hi   X 0 m_6 _ _ _  h hP hS (lv_sub hl [2, 0] rfl)
  · have h := ifn c_8 h
    refine lv_aload_n hx hb dX1_goBy_20 rfl (lv_at hl 2 rfl) ?_
    refine r_get kc_1 2 X hP (lt_g hi (by decide)) (L_gym hi _) (by decide) rfl wt_1_172 dX1_goBy_21 ?_
    refine lv_iconst (v := 4) hx hb dX1_goBy_24 (by decide) ?_
    refine r_row (q' := (gp i 6)) X hP (lt_g hi (by decide)) ((Lq_g_1 hi) _) (vpc (by decide)) ixc_4 (by decide) rfl dX1_goBy_25 ?_
    refine lv_iload_n hx hb dX1_goBy_26 rfl (lv_at hl 1 rfl) ?_
    obtain ⟨hin_29, h⟩ := gx_some h
    refine r_iald X hP (lt_g2 (j := 4) hi (by decide)) ((La_g_row (j := 4) hi (by decide)) _) hin_29 rfl dX1_goBy_27 ?_
    refine lv_if_le (tgt := 73) hx hb dX1_goBy_28 (by decide) (fun c_30 => ?_) (fun c_30 => ?_)
    · have h := ifp c_30 h
      exact tX1_goBy_73 hI hi   X 0 m_6 _ _ _  h hP hS (lv_sub hl [2, 0] rfl)
    · have h := ifn c_30 h
      refine lv_aload_n hx hb dX1_goBy_31 rfl (lv_at hl 2 rfl) ?_
      refine lv_iload_n hx hb dX1_goBy_32 rfl (lv_at hl 1 rfl) ?_
      refine lv_aload_n hx hb dX1_goBy_33 rfl (lv_at hl 2 rfl) ?_
      refine r_get kc_1 6 X hP (lt_g hi (by decide)) (L_gym hi _) (by decide) rfl wt_1_184 dX1_goBy_34 ?_
      obtain ⟨r_31, m_32, hc_33, h⟩ := bd_some h
      refine c_V (rest := []) X hP hS (tX1_mayIn hI hi hc_33) (lt_g hi (by decide)) (L_gym hi _) rfl wt_3_217 wt_2_165 wt_2_166 wt_1_10 wt_2_167 ⟨rfl, hy_X1_mayIn⟩ ⟨rfl, rfl⟩ ⟨Nat.le_of_ble_eq_true rfl, Nat.le_of_ble_eq_true rfl⟩ rfl hl.1 rfl (Nat.le_of_ble_eq_true rfl) dX1_goBy_37 rfl (fun H locs hP hS => ?_)
      refine lv_if_eq (tgt := 73) hx hb dX1_goBy_40 (by decide) (fun c_34 => ?_) (fun c_34 => ?_)
      · have h := ifp c_34 h
        exact tX1_goBy_73 hI hi   X 0 m_32 _ _ _  h hP hS (lv_sub hl [2, 0] rfl)
      · have h := ifn c_34 h
        refine lv_aload_n hx hb dX1_goBy_43 rfl (lv_at hl 2 rfl) ?_
        refine lv_iload_n hx hb dX1_goBy_44 rfl (lv_at hl 1 rfl) ?_
        obtain ⟨r_35, m_36, hc_37, h⟩ := bd_some h
        refine c_V (rest := []) X hP hS (tX1_will hI hi hc_37) (lt_g hi (by decide)) (L_gym hi _) rfl wt_3_223 wt_3_10 wt_3_11 wt_1_10 wt_3_12 ⟨rfl, hy_X1_will⟩ ⟨rfl, rfl⟩ ⟨Nat.le_of_ble_eq_true rfl, Nat.le_of_ble_eq_true rfl⟩ rfl hl.1 rfl (Nat.le_of_ble_eq_true rfl) dX1_goBy_45 rfl (fun H locs hP hS => ?_)
        refine lv_istore (lv' := [(4, .int r_35), (3, .int 0), (2, .int x2_1), (0, .ref (A (gp i 0))), (1, .int a1)]) hx hb dX1_goBy_48 hl (by decide) rfl (fun ls hl => ?_)
        refine lv_iload hx hb dX1_goBy_50 (lv_at hl 0 rfl) ?_
        refine lv_iconst (v := 2) hx hb dX1_goBy_52 (by decide) ?_
        refine lv_icmp_eq (tgt := 73) hx hb dX1_goBy_53 (by decide) (fun c_38 => ?_) (fun c_38 => ?_)
        · have h := ifp c_38 h
          exact tX1_goBy_73 hI hi   X 0 m_36 _ _ _  h hP hS (lv_sub hl [3, 1] rfl)
        · have h := ifn c_38 h
          refine lv_aload_n hx hb dX1_goBy_56 rfl (lv_at hl 3 rfl) ?_
          refine lv_iload_n hx hb dX1_goBy_57 rfl (lv_at hl 2 rfl) ?_
          refine lv_iload hx hb dX1_goBy_58 (lv_at hl 0 rfl) ?_
          refine lv_iconst (v := 1) hx hb dX1_goBy_60 (by decide) ?_
          refine lv_icmp_ne (tgt := 68) hx hb dX1_goBy_61 (by decide) (fun c_39 => ?_) (fun c_39 => ?_)
          · have h := ifn c_39 h
            refine lv_iconst (v := 0) hx hb dX1_goBy_68 (by decide) ?_
            exact tX1_goBy_69 hI hi   X 0 x2_1 m_36 _ _ _  h hP hS (lv_sub hl [3] rfl)
          · have h := ifp c_39 h
            refine lv_iconst (v := 1) hx hb dX1_goBy_64 (by decide) ?_
            refine lv_goto (tgt := 69) hx hb dX1_goBy_65 (by decide) ?_
            exact tX1_goBy_69 hI hi   X 1 x2_1 m_36 _ _ _  h hP hS (lv_sub hl [3] rfl)

def fX1_restAct_2 (i : Nat) : Nat → Int32 → Mm → Option (Int32 × Mm)
  | 0, _, _ => none
  | n + 1, x1, m => (if ((m (gp i 0) 3) : Int32) ≤ x1 then some (0, m) else gx x1 6 ((if (m (gp i 6) (ix x1)) ≤ 0 then lt ((x1 : Int32) + 1) fun x1_4 => (fX1_restAct_2 i n x1_4 m) else bd (fX1_mayIn i x1 (m (gp i 0) 6) m) fun r_6 m_7 => (if r_6 = 0 then lt ((x1 : Int32) + 1) fun x1_10 => (fX1_restAct_2 i n x1_10 m_7) else some ((x1 + 1), m_7)))))
set_option maxHeartbeats 4000000 in
set_option maxRecDepth 100000 in
theorem tX1_restAct_2 (hI : InjA cN A) {i : Nat} (hi : i < 8) {r : Int32} {m' : Mm} (X : CX cLay cN D cA A p s m0 args meth c "BenchTowels$Gym" cX1_restAct 2 (some .int)) : ∀ (n : Nat) (x1 : Int32) (m : Mm) (H : Heap) (locs : List Loc) (ls : Array Slot), fX1_restAct_2 i n x1 m = some (r, m') → va_P D vwCl (wsOf cLay cN cA A m) H → va_S (AW cN A) s.heap H locs → lv_has ls 2 [(0, .ref (A (gp i 0))), (1, .int x1)] → W p l e { frames := 4, cells := 0, slots := 0, locals := 87 } s m0 args below meth c H locs 0 0 (ZR below args s cLay cN D cA A (some (.int r)) m') (F0 m0 2 ls []) := by
  have hx := X.1
  have hb := X.2.1
  have hml := X.2.2.1
  have hown := X.2.2.2.1
  have hts := X.2.2.2.2.1
  have hF := X.2.2.2.2.2.2.2.2.1
  intro n
  induction n with
  | zero =>
    intro x1 m H locs ls h hP hS hl
    exact absurd h (by rewrite [fX1_restAct_2]; exact fun q => by cases q)
  | succ n ih =>
    intro x1 m H locs ls h hP hS hl
    rewrite [fX1_restAct_2] at h
    refine lv_iload_n hx hb dX1_restAct_2 rfl (lv_at hl 1 rfl) ?_
    refine lv_aload_n hx hb dX1_restAct_3 rfl (lv_at hl 0 rfl) ?_
    refine r_get kc_1 3 X hP (lt_g hi (by decide)) (L_gym hi _) (by decide) rfl wt_1_175 dX1_restAct_4 ?_
    refine lv_icmp_ge (tgt := 43) hx hb dX1_restAct_7 (by decide) (fun c_1 => ?_) (fun c_1 => ?_)
    · have h := ifp c_1 h
      refine lv_iconst (v := 0) hx hb dX1_restAct_43 (by decide) ?_
      exact r_iret X hP hS dX1_restAct_44 h
    · have h := ifn c_1 h
      refine lv_aload_n hx hb dX1_restAct_10 rfl (lv_at hl 0 rfl) ?_
      refine r_get kc_1 2 X hP (lt_g hi (by decide)) (L_gym hi _) (by decide) rfl wt_1_172 dX1_restAct_11 ?_
      refine lv_iconst (v := 4) hx hb dX1_restAct_14 (by decide) ?_
      refine r_row (q' := (gp i 6)) X hP (lt_g hi (by decide)) ((Lq_g_1 hi) _) (vpc (by decide)) ixc_4 (by decide) rfl dX1_restAct_15 ?_
      refine lv_iload_n hx hb dX1_restAct_16 rfl (lv_at hl 1 rfl) ?_
      obtain ⟨hin_2, h⟩ := gx_some h
      refine r_iald X hP (lt_g2 (j := 4) hi (by decide)) ((La_g_row (j := 4) hi (by decide)) _) hin_2 rfl dX1_restAct_17 ?_
      refine lv_if_le (tgt := 37) hx hb dX1_restAct_18 (by decide) (fun c_3 => ?_) (fun c_3 => ?_)
      · have h := ifp c_3 h
        obtain ⟨x1_4, ex_5, h⟩ := lt_some h
        refine lv_iinc (v := x1_4) (lv' := [(1, .int x1_4), (0, .ref (A (gp i 0)))]) hx hb dX1_restAct_37 hl (k := 1) rfl (by rw [ex_5]; rfl) (by decide) rfl (fun ls hl => ?_)
        refine lv_goto (tgt := 2) hx hb dX1_restAct_40 (by decide) ?_
        exact ih x1_4 m _ _ _  h hP hS (lv_sub hl [1, 0] rfl)
      · have h := ifn c_3 h
        refine lv_aload_n hx hb dX1_restAct_21 rfl (lv_at hl 0 rfl) ?_
        refine lv_iload_n hx hb dX1_restAct_22 rfl (lv_at hl 1 rfl) ?_
        refine lv_aload_n hx hb dX1_restAct_23 rfl (lv_at hl 0 rfl) ?_
        refine r_get kc_1 6 X hP (lt_g hi (by decide)) (L_gym hi _) (by decide) rfl wt_1_184 dX1_restAct_24 ?_
        obtain ⟨r_6, m_7, hc_8, h⟩ := bd_some h
        refine c_V (rest := []) X hP hS (tX1_mayIn hI hi hc_8) (lt_g hi (by decide)) (L_gym hi _) rfl wt_3_217 wt_2_165 wt_2_166 wt_1_10 wt_2_167 ⟨rfl, hy_X1_mayIn⟩ ⟨rfl, rfl⟩ ⟨Nat.le_of_ble_eq_true rfl, Nat.le_of_ble_eq_true rfl⟩ rfl hl.1 rfl (Nat.le_of_ble_eq_true rfl) dX1_restAct_27 rfl (fun H locs hP hS => ?_)
        refine lv_if_eq (tgt := 37) hx hb dX1_restAct_30 (by decide) (fun c_9 => ?_) (fun c_9 => ?_)
        · have h := ifp c_9 h
          obtain ⟨x1_10, ex_11, h⟩ := lt_some h
          refine lv_iinc (v := x1_10) (lv' := [(1, .int x1_10), (0, .ref (A (gp i 0)))]) hx hb dX1_restAct_37 hl (k := 1) rfl (by rw [ex_11]; rfl) (by decide) rfl (fun ls hl => ?_)
          refine lv_goto (tgt := 2) hx hb dX1_restAct_40 (by decide) ?_
          exact ih x1_10 m_7 _ _ _  h hP hS (lv_sub hl [1, 0] rfl)
        · have h := ifn c_9 h
          refine lv_iload_n hx hb dX1_restAct_33 rfl (lv_at hl 1 rfl) ?_
          refine lv_iconst (v := 1) hx hb dX1_restAct_34 (by decide) ?_
          refine lv_iadd hx hb dX1_restAct_35 ?_
          exact r_iret X hP hS dX1_restAct_36 h

def fX1_restAct (i : Nat) (m : Mm) : Option (Int32 × Mm) := (fX1_restAct_2 i FL 0 m)
set_option maxHeartbeats 4000000 in
set_option maxRecDepth 100000 in
theorem tX1_restAct {l : Launch} {D : va_G} {cA : Nat → ClassId} {A : Nat → Nat} (hI : InjA cN A) {i : Nat} (hi : i < 8) {m m' : Mm} {r : Int32} (h : fX1_restAct i m = some (r, m')) : Met0 l yX1_restAct cX1_restAct 2 (some .int) { frames := 4, cells := 0, slots := 0, locals := 87 } cLay cN D cA A [.ref (A (gp i 0))] m (some (.int r)) m' := by
  refine met0_of (by decide) (Nat.le_of_ble_eq_true rfl) hI ?_
  intro p e s m0 below meth c ls X hinit hP hS hl
  generalize ([.ref (A (gp i 0))] : List Value).toArray = args at X ⊢
  have hl : lv_has ls 2 [(0, .ref (A (gp i 0)))] := hl
  have X : CX cLay cN D cA A p s m0 args meth c "BenchTowels$Gym" cX1_restAct 2 (some .int) := X
  have hx := X.1
  have hb := X.2.1
  have hml := X.2.2.1
  have hown := X.2.2.2.1
  have hts := X.2.2.2.2.1
  have hF := X.2.2.2.2.2.2.2.2.1
  rewrite [fX1_restAct] at h
  refine lv_iconst (v := 0) hx hb dX1_restAct_0 (by decide) ?_
  refine lv_istore_n (lv' := [(1, .int 0), (0, .ref (A (gp i 0)))]) hx hb dX1_restAct_1 rfl hl (by decide) rfl (fun ls hl => ?_)
  exact tX1_restAct_2 hI hi   X FL 0 m _ _ _  h hP hS (lv_sub hl [1, 0] rfl)

def fX1_goRest_4 (i : Nat) : Nat → Int32 → Int32 → Int32 → Mm → Option (Int32 × Mm)
  | 0, _, _, _, _ => none
  | n + 1, x1, x2, x3, m => (if (x1 : Int32) ≤ x3 then some (x2, m) else bd (fX1_isOver i m) fun r_2 m_3 => (if r_2 = 0 then bd (fX1_restAct i m_3) fun r_6 m_7 => bd (fX1_goBy i r_6 m_7) fun r_9 m_10 => lt (x2 + r_9) fun x2_12 => lt ((x3 : Int32) + 1) fun x3_14 => (fX1_goRest_4 i n x1 x2_12 x3_14 m_10) else some (x2, m_3)))
set_option maxHeartbeats 4000000 in
set_option maxRecDepth 100000 in
theorem tX1_goRest_4 (hI : InjA cN A) {i : Nat} (hi : i < 8) {r : Int32} {m' : Mm} (X : CX cLay cN D cA A p s m0 args meth c "BenchTowels$Gym" cX1_goRest 4 (some .int)) : ∀ (n : Nat) (x1 : Int32) (x2 : Int32) (x3 : Int32) (m : Mm) (H : Heap) (locs : List Loc) (ls : Array Slot), fX1_goRest_4 i n x1 x2 x3 m = some (r, m') → va_P D vwCl (wsOf cLay cN cA A m) H → va_S (AW cN A) s.heap H locs → lv_has ls 4 [(0, .ref (A (gp i 0))), (1, .int x1), (2, .int x2), (3, .int x3)] → W p l e { frames := 5, cells := 0, slots := 0, locals := 120 } s m0 args below meth c H locs 0 0 (ZR below args s cLay cN D cA A (some (.int r)) m') (F0 m0 4 ls []) := by
  have hx := X.1
  have hb := X.2.1
  have hml := X.2.2.1
  have hown := X.2.2.2.1
  have hts := X.2.2.2.2.1
  have hF := X.2.2.2.2.2.2.2.2.1
  intro n
  induction n with
  | zero =>
    intro x1 x2 x3 m H locs ls h hP hS hl
    exact absurd h (by rewrite [fX1_goRest_4]; exact fun q => by cases q)
  | succ n ih =>
    intro x1 x2 x3 m H locs ls h hP hS hl
    rewrite [fX1_goRest_4] at h
    refine lv_iload_n hx hb dX1_goRest_4 rfl (lv_at hl 3 rfl) ?_
    refine lv_iload_n hx hb dX1_goRest_5 rfl (lv_at hl 1 rfl) ?_
    refine lv_icmp_ge (tgt := 33) hx hb dX1_goRest_6 (by decide) (fun c_1 => ?_) (fun c_1 => ?_)
    · have h := ifp c_1 h
      refine lv_iload_n hx hb dX1_goRest_33 rfl (lv_at hl 2 rfl) ?_
      exact r_iret X hP hS dX1_goRest_34 h
    · have h := ifn c_1 h
      refine lv_aload_n hx hb dX1_goRest_9 rfl (lv_at hl 0 rfl) ?_
      obtain ⟨r_2, m_3, hc_4, h⟩ := bd_some h
      refine c_V (rest := []) X hP hS (tX1_isOver hI hi hc_4) (lt_g hi (by decide)) (L_gym hi _) rfl wt_4_15 wt_3_74 wt_3_75 wt_1_10 wt_3_76 ⟨rfl, hy_X1_isOver⟩ ⟨rfl, rfl⟩ ⟨Nat.le_of_ble_eq_true rfl, Nat.le_of_ble_eq_true rfl⟩ rfl hl.1 rfl (Nat.le_of_ble_eq_true rfl) dX1_goRest_10 rfl (fun H locs hP hS => ?_)
      refine lv_if_ne (tgt := 33) hx hb dX1_goRest_13 (by decide) (fun c_5 => ?_) (fun c_5 => ?_)
      · have h := ifn c_5 h
        refine lv_iload_n hx hb dX1_goRest_33 rfl (lv_at hl 2 rfl) ?_
        exact r_iret X hP hS dX1_goRest_34 h
      · have h := ifp c_5 h
        refine lv_iload_n hx hb dX1_goRest_16 rfl (lv_at hl 2 rfl) ?_
        refine lv_aload_n hx hb dX1_goRest_17 rfl (lv_at hl 0 rfl) ?_
        refine lv_aload_n hx hb dX1_goRest_18 rfl (lv_at hl 0 rfl) ?_
        obtain ⟨r_6, m_7, hc_8, h⟩ := bd_some h
        refine c_V (rest := [.ref (A (gp i 0)), .int x2]) X hP hS (tX1_restAct hI hi hc_8) (lt_g hi (by decide)) (L_gym hi _) rfl wt_4_16 wt_3_214 wt_3_215 wt_1_10 wt_3_216 ⟨rfl, hy_X1_restAct⟩ ⟨rfl, rfl⟩ ⟨Nat.le_of_ble_eq_true rfl, Nat.le_of_ble_eq_true rfl⟩ rfl hl.1 rfl (Nat.le_of_ble_eq_true rfl) dX1_goRest_19 rfl (fun H locs hP hS => ?_)
        obtain ⟨r_9, m_10, hc_11, h⟩ := bd_some h
        refine c_V (rest := [.int x2]) X hP hS (tX1_goBy hI hi hc_11) (lt_g hi (by decide)) (L_gym hi _) rfl wt_4_17 wt_3_219 wt_3_220 wt_1_10 wt_3_221 ⟨rfl, hy_X1_goBy⟩ ⟨rfl, rfl⟩ ⟨Nat.le_of_ble_eq_true rfl, Nat.le_of_ble_eq_true rfl⟩ rfl hl.1 rfl (Nat.le_of_ble_eq_true rfl) dX1_goRest_22 rfl (fun H locs hP hS => ?_)
        refine lv_iadd hx hb dX1_goRest_25 ?_
        obtain ⟨x2_12, ex_13, h⟩ := lt_some h
        refine lv_ren ex_13 ?_
        refine lv_istore_n (lv' := [(2, .int x2_12), (0, .ref (A (gp i 0))), (1, .int x1), (3, .int x3)]) hx hb dX1_goRest_26 rfl hl (by decide) rfl (fun ls hl => ?_)
        obtain ⟨x3_14, ex_15, h⟩ := lt_some h
        refine lv_iinc (v := x3_14) (lv' := [(3, .int x3_14), (2, .int x2_12), (0, .ref (A (gp i 0))), (1, .int x1)]) hx hb dX1_goRest_27 hl (k := 3) rfl (by rw [ex_15]; rfl) (by decide) rfl (fun ls hl => ?_)
        refine lv_goto (tgt := 4) hx hb dX1_goRest_30 (by decide) ?_
        exact ih x1 x2_12 x3_14 m_10 _ _ _  h hP hS (lv_sub hl [2, 3, 1, 0] rfl)

def fX1_goRest (i : Nat) (a1 : Int32) (m : Mm) : Option (Int32 × Mm) := (fX1_goRest_4 i FL a1 0 0 m)
set_option maxHeartbeats 4000000 in
set_option maxRecDepth 100000 in
theorem tX1_goRest {l : Launch} {D : va_G} {cA : Nat → ClassId} {A : Nat → Nat} (hI : InjA cN A) {i : Nat} (hi : i < 8) {a1 : Int32} {m m' : Mm} {r : Int32} (h : fX1_goRest i a1 m = some (r, m')) : Met0 l yX1_goRest cX1_goRest 4 (some .int) { frames := 5, cells := 0, slots := 0, locals := 120 } cLay cN D cA A [.ref (A (gp i 0)), .int a1] m (some (.int r)) m' := by
  refine met0_of (by decide) (Nat.le_of_ble_eq_true rfl) hI ?_
  intro p e s m0 below meth c ls X hinit hP hS hl
  generalize ([.ref (A (gp i 0)), .int a1] : List Value).toArray = args at X ⊢
  have hl : lv_has ls 4 [(0, .ref (A (gp i 0))), (1, .int a1)] := hl
  have X : CX cLay cN D cA A p s m0 args meth c "BenchTowels$Gym" cX1_goRest 4 (some .int) := X
  have hx := X.1
  have hb := X.2.1
  have hml := X.2.2.1
  have hown := X.2.2.2.1
  have hts := X.2.2.2.2.1
  have hF := X.2.2.2.2.2.2.2.2.1
  rewrite [fX1_goRest] at h
  refine lv_iconst (v := 0) hx hb dX1_goRest_0 (by decide) ?_
  refine lv_istore_n (lv' := [(2, .int 0), (0, .ref (A (gp i 0))), (1, .int a1)]) hx hb dX1_goRest_1 rfl hl (by decide) rfl (fun ls hl => ?_)
  refine lv_iconst (v := 0) hx hb dX1_goRest_2 (by decide) ?_
  refine lv_istore_n (lv' := [(3, .int 0), (2, .int 0), (0, .ref (A (gp i 0))), (1, .int a1)]) hx hb dX1_goRest_3 rfl hl (by decide) rfl (fun ls hl => ?_)
  exact tX1_goRest_4 hI hi   X FL a1 0 0 m _ _ _  h hP hS (lv_sub hl [2, 3, 1, 0] rfl)

def fX1_drawAct (i : Nat) (m : Mm) : Option (Int32 × Mm) := lt (up m (gp i 0) 9 (((m (gp i 0) 9) * 1103515245) + 12345)) fun m_1 => gz ((m_1 (gp i 0) 3) + 1) (some ((((Int32.toUInt32 (m_1 (gp i 0) 9) >>> (Int32.toUInt32 16 &&& Int32.toUInt32 31)).toInt32) - ((Int32.toUInt32 (m_1 (gp i 0) 9) >>> (Int32.toUInt32 16 &&& Int32.toUInt32 31)).toInt32) / ((m_1 (gp i 0) 3) + 1) * ((m_1 (gp i 0) 3) + 1)), m_1))
set_option maxHeartbeats 4000000 in
set_option maxRecDepth 100000 in
theorem tX1_drawAct {l : Launch} {D : va_G} {cA : Nat → ClassId} {A : Nat → Nat} (hI : InjA cN A) {i : Nat} (hi : i < 8) {m m' : Mm} {r : Int32} (h : fX1_drawAct i m = some (r, m')) : Met0 l yX1_drawAct cX1_drawAct 1 (some .int) { frames := 0, cells := 0, slots := 0, locals := 0 } cLay cN D cA A [.ref (A (gp i 0))] m (some (.int r)) m' := by
  refine met0_of (by decide) (Nat.le_of_ble_eq_true rfl) hI ?_
  intro p e s m0 below meth c ls X hinit hP hS hl
  generalize ([.ref (A (gp i 0))] : List Value).toArray = args at X ⊢
  have hl : lv_has ls 1 [(0, .ref (A (gp i 0)))] := hl
  have X : CX cLay cN D cA A p s m0 args meth c "BenchTowels$Gym" cX1_drawAct 1 (some .int) := X
  have hx := X.1
  have hb := X.2.1
  have hml := X.2.2.1
  have hown := X.2.2.2.1
  have hts := X.2.2.2.2.1
  have hF := X.2.2.2.2.2.2.2.2.1
  rewrite [fX1_drawAct] at h
  refine lv_aload_n hx hb dX1_drawAct_0 rfl (lv_at hl 0 rfl) ?_
  refine lv_aload_n hx hb dX1_drawAct_1 rfl (lv_at hl 0 rfl) ?_
  refine r_get kc_1 9 X hP (lt_g hi (by decide)) (L_gym hi _) (by decide) rfl wt_1_190 dX1_drawAct_2 ?_
  refine lv_ldc (v := 1103515245) hx hb hown (hts _ wt_4_192) dX1_drawAct_5 ?_
  refine lv_imul hx hb dX1_drawAct_7 ?_
  refine lv_sipush (v := 12345) hx hb dX1_drawAct_8 (by decide) ?_
  refine lv_iadd hx hb dX1_drawAct_11 ?_
  obtain ⟨m_1, em_2, h⟩ := lt_some h
  refine r_put kc_1 9 X hP hS (lt_g hi (by decide)) (L_gym hi _) (L_gym hi _) (by decide) wt_1_190 rfl (by decide +kernel) (Nat.le_of_ble_eq_true rfl) dX1_drawAct_12 em_2 (fun H locs hP hS => ?_)
  refine lv_aload_n hx hb dX1_drawAct_15 rfl (lv_at hl 0 rfl) ?_
  refine r_get kc_1 9 X hP (lt_g hi (by decide)) (L_gym hi _) (by decide) rfl wt_1_190 dX1_drawAct_16 ?_
  refine lv_bipush (v := 16) hx hb dX1_drawAct_19 (by decide) ?_
  refine lv_iushr hx hb dX1_drawAct_21 rfl ?_
  refine lv_aload_n hx hb dX1_drawAct_22 rfl (lv_at hl 0 rfl) ?_
  refine r_get kc_1 3 X hP (lt_g hi (by decide)) (L_gym hi _) (by decide) rfl wt_1_175 dX1_drawAct_23 ?_
  refine lv_iconst (v := 1) hx hb dX1_drawAct_26 (by decide) ?_
  refine lv_iadd hx hb dX1_drawAct_27 ?_
  obtain ⟨hz_3, h⟩ := gz_some h
  refine lv_irem hx hb dX1_drawAct_28 hz_3 ?_
  exact r_iret X hP hS dX1_drawAct_29 h

def fX1_goByLot_4 (i : Nat) : Nat → Int32 → Int32 → Mm → Option (Int32 × Mm)
  | 0, _, _, _ => none
  | n + 1, x1, x2, m => (if (16 : Int32) ≤ x2 then some (x1, m) else bd (fX1_isOver i m) fun r_2 m_3 => (if r_2 = 0 then bd (fX1_drawAct i m_3) fun r_6 m_7 => bd (fX1_goBy i r_6 m_7) fun r_9 m_10 => lt (x1 + r_9) fun x1_12 => lt ((x2 : Int32) + 1) fun x2_14 => (fX1_goByLot_4 i n x1_12 x2_14 m_10) else some (x1, m_3)))
set_option maxHeartbeats 4000000 in
set_option maxRecDepth 100000 in
theorem tX1_goByLot_4 (hI : InjA cN A) {i : Nat} (hi : i < 8) {r : Int32} {m' : Mm} (X : CX cLay cN D cA A p s m0 args meth c "BenchTowels$Gym" cX1_goByLot 3 (some .int)) : ∀ (n : Nat) (x1 : Int32) (x2 : Int32) (m : Mm) (H : Heap) (locs : List Loc) (ls : Array Slot), fX1_goByLot_4 i n x1 x2 m = some (r, m') → va_P D vwCl (wsOf cLay cN cA A m) H → va_S (AW cN A) s.heap H locs → lv_has ls 3 [(0, .ref (A (gp i 0))), (1, .int x1), (2, .int x2)] → W p l e { frames := 5, cells := 0, slots := 0, locals := 120 } s m0 args below meth c H locs 0 0 (ZR below args s cLay cN D cA A (some (.int r)) m') (F0 m0 4 ls []) := by
  have hx := X.1
  have hb := X.2.1
  have hml := X.2.2.1
  have hown := X.2.2.2.1
  have hts := X.2.2.2.2.1
  have hF := X.2.2.2.2.2.2.2.2.1
  intro n
  induction n with
  | zero =>
    intro x1 x2 m H locs ls h hP hS hl
    exact absurd h (by rewrite [fX1_goByLot_4]; exact fun q => by cases q)
  | succ n ih =>
    intro x1 x2 m H locs ls h hP hS hl
    rewrite [fX1_goByLot_4] at h
    refine lv_iload_n hx hb dX1_goByLot_4 rfl (lv_at hl 2 rfl) ?_
    refine lv_bipush (v := 16) hx hb dX1_goByLot_5 (by decide) ?_
    refine lv_icmp_ge (tgt := 34) hx hb dX1_goByLot_7 (by decide) (fun c_1 => ?_) (fun c_1 => ?_)
    · have h := ifp c_1 h
      refine lv_iload_n hx hb dX1_goByLot_34 rfl (lv_at hl 1 rfl) ?_
      exact r_iret X hP hS dX1_goByLot_35 h
    · have h := ifn c_1 h
      refine lv_aload_n hx hb dX1_goByLot_10 rfl (lv_at hl 0 rfl) ?_
      obtain ⟨r_2, m_3, hc_4, h⟩ := bd_some h
      refine c_V (rest := []) X hP hS (tX1_isOver hI hi hc_4) (lt_g hi (by decide)) (L_gym hi _) rfl wt_4_15 wt_3_74 wt_3_75 wt_1_10 wt_3_76 ⟨rfl, hy_X1_isOver⟩ ⟨rfl, rfl⟩ ⟨Nat.le_of_ble_eq_true rfl, Nat.le_of_ble_eq_true rfl⟩ rfl hl.1 rfl (Nat.le_of_ble_eq_true rfl) dX1_goByLot_11 rfl (fun H locs hP hS => ?_)
      refine lv_if_ne (tgt := 34) hx hb dX1_goByLot_14 (by decide) (fun c_5 => ?_) (fun c_5 => ?_)
      · have h := ifn c_5 h
        refine lv_iload_n hx hb dX1_goByLot_34 rfl (lv_at hl 1 rfl) ?_
        exact r_iret X hP hS dX1_goByLot_35 h
      · have h := ifp c_5 h
        refine lv_iload_n hx hb dX1_goByLot_17 rfl (lv_at hl 1 rfl) ?_
        refine lv_aload_n hx hb dX1_goByLot_18 rfl (lv_at hl 0 rfl) ?_
        refine lv_aload_n hx hb dX1_goByLot_19 rfl (lv_at hl 0 rfl) ?_
        obtain ⟨r_6, m_7, hc_8, h⟩ := bd_some h
        refine c_V (rest := [.ref (A (gp i 0)), .int x1]) X hP hS (tX1_drawAct hI hi hc_8) (lt_g hi (by decide)) (L_gym hi _) rfl wt_4_202 wt_4_189 wt_4_190 wt_1_10 wt_4_191 ⟨rfl, hy_X1_drawAct⟩ ⟨rfl, rfl⟩ ⟨Nat.le_of_ble_eq_true rfl, Nat.le_of_ble_eq_true rfl⟩ rfl hl.1 rfl (Nat.le_of_ble_eq_true rfl) dX1_goByLot_20 rfl (fun H locs hP hS => ?_)
        obtain ⟨r_9, m_10, hc_11, h⟩ := bd_some h
        refine c_V (rest := [.int x1]) X hP hS (tX1_goBy hI hi hc_11) (lt_g hi (by decide)) (L_gym hi _) rfl wt_4_17 wt_3_219 wt_3_220 wt_1_10 wt_3_221 ⟨rfl, hy_X1_goBy⟩ ⟨rfl, rfl⟩ ⟨Nat.le_of_ble_eq_true rfl, Nat.le_of_ble_eq_true rfl⟩ rfl hl.1 rfl (Nat.le_of_ble_eq_true rfl) dX1_goByLot_23 rfl (fun H locs hP hS => ?_)
        refine lv_iadd hx hb dX1_goByLot_26 ?_
        obtain ⟨x1_12, ex_13, h⟩ := lt_some h
        refine lv_ren ex_13 ?_
        refine lv_istore_n (lv' := [(1, .int x1_12), (0, .ref (A (gp i 0))), (2, .int x2)]) hx hb dX1_goByLot_27 rfl hl (by decide) rfl (fun ls hl => ?_)
        obtain ⟨x2_14, ex_15, h⟩ := lt_some h
        refine lv_iinc (v := x2_14) (lv' := [(2, .int x2_14), (1, .int x1_12), (0, .ref (A (gp i 0)))]) hx hb dX1_goByLot_28 hl (k := 2) rfl (by rw [ex_15]; rfl) (by decide) rfl (fun ls hl => ?_)
        refine lv_goto (tgt := 4) hx hb dX1_goByLot_31 (by decide) ?_
        exact ih x1_12 x2_14 m_10 _ _ _  h hP hS (lv_sub hl [2, 1, 0] rfl)

def fX1_goByLot (i : Nat) (m : Mm) : Option (Int32 × Mm) := (fX1_goByLot_4 i FL 0 0 m)
set_option maxHeartbeats 4000000 in
set_option maxRecDepth 100000 in
theorem tX1_goByLot {l : Launch} {D : va_G} {cA : Nat → ClassId} {A : Nat → Nat} (hI : InjA cN A) {i : Nat} (hi : i < 8) {m m' : Mm} {r : Int32} (h : fX1_goByLot i m = some (r, m')) : Met0 l yX1_goByLot cX1_goByLot 3 (some .int) { frames := 5, cells := 0, slots := 0, locals := 120 } cLay cN D cA A [.ref (A (gp i 0))] m (some (.int r)) m' := by
  refine met0_of (by decide) (Nat.le_of_ble_eq_true rfl) hI ?_
  intro p e s m0 below meth c ls X hinit hP hS hl
  generalize ([.ref (A (gp i 0))] : List Value).toArray = args at X ⊢
  have hl : lv_has ls 3 [(0, .ref (A (gp i 0)))] := hl
  have X : CX cLay cN D cA A p s m0 args meth c "BenchTowels$Gym" cX1_goByLot 3 (some .int) := X
  have hx := X.1
  have hb := X.2.1
  have hml := X.2.2.1
  have hown := X.2.2.2.1
  have hts := X.2.2.2.2.1
  have hF := X.2.2.2.2.2.2.2.2.1
  rewrite [fX1_goByLot] at h
  refine lv_iconst (v := 0) hx hb dX1_goByLot_0 (by decide) ?_
  refine lv_istore_n (lv' := [(1, .int 0), (0, .ref (A (gp i 0)))]) hx hb dX1_goByLot_1 rfl hl (by decide) rfl (fun ls hl => ?_)
  refine lv_iconst (v := 0) hx hb dX1_goByLot_2 (by decide) ?_
  refine lv_istore_n (lv' := [(2, .int 0), (1, .int 0), (0, .ref (A (gp i 0)))]) hx hb dX1_goByLot_3 rfl hl (by decide) rfl (fun ls hl => ?_)
  exact tX1_goByLot_4 hI hi   X FL 0 0 m _ _ _  h hP hS (lv_sub hl [2, 1, 0] rfl)

def fX1_takenIn_4 (i : Nat) : Nat → Int32 → Int32 → Int32 → Mm → Option (Int32 × Mm)
  | 0, _, _, _, _ => none
  | n + 1, x1, x2, x3, m => (if (6 : Int32) ≤ x3 then some (x2, m) else gx x3 6 (lt (x2 + (((m (gp i 9) (ix x3)) >>> (x1 &&& 31)) &&& 1)) fun x2_3 => lt ((x3 : Int32) + 1) fun x3_5 => (fX1_takenIn_4 i n x1 x2_3 x3_5 m)))
set_option maxHeartbeats 4000000 in
set_option maxRecDepth 100000 in
theorem tX1_takenIn_4 (hI : InjA cN A) {i : Nat} (hi : i < 8) {r : Int32} {m' : Mm} (X : CX cLay cN D cA A p s m0 args meth c "BenchTowels$Gym" cX1_takenIn 4 (some .int)) : ∀ (n : Nat) (x1 : Int32) (x2 : Int32) (x3 : Int32) (m : Mm) (H : Heap) (locs : List Loc) (ls : Array Slot), fX1_takenIn_4 i n x1 x2 x3 m = some (r, m') → va_P D vwCl (wsOf cLay cN cA A m) H → va_S (AW cN A) s.heap H locs → lv_has ls 4 [(0, .ref (A (gp i 0))), (1, .int x1), (2, .int x2), (3, .int x3)] → W p l e { frames := 0, cells := 0, slots := 0, locals := 0 } s m0 args below meth c H locs 0 0 (ZR below args s cLay cN D cA A (some (.int r)) m') (F0 m0 4 ls []) := by
  have hx := X.1
  have hb := X.2.1
  have hml := X.2.2.1
  have hown := X.2.2.2.1
  have hts := X.2.2.2.2.1
  have hF := X.2.2.2.2.2.2.2.2.1
  intro n
  induction n with
  | zero =>
    intro x1 x2 x3 m H locs ls h hP hS hl
    exact absurd h (by rewrite [fX1_takenIn_4]; exact fun q => by cases q)
  | succ n ih =>
    intro x1 x2 x3 m H locs ls h hP hS hl
    rewrite [fX1_takenIn_4] at h
    refine lv_iload_n hx hb dX1_takenIn_4 rfl (lv_at hl 3 rfl) ?_
    refine lv_bipush (v := 6) hx hb dX1_takenIn_5 (by decide) ?_
    refine lv_icmp_ge (tgt := 31) hx hb dX1_takenIn_7 (by decide) (fun c_1 => ?_) (fun c_1 => ?_)
    · have h := ifp c_1 h
      refine lv_iload_n hx hb dX1_takenIn_31 rfl (lv_at hl 2 rfl) ?_
      exact r_iret X hP hS dX1_takenIn_32 h
    · have h := ifn c_1 h
      refine lv_iload_n hx hb dX1_takenIn_10 rfl (lv_at hl 2 rfl) ?_
      refine lv_aload_n hx hb dX1_takenIn_11 rfl (lv_at hl 0 rfl) ?_
      refine r_get kc_1 4 X hP (lt_g hi (by decide)) (L_gym hi _) (by decide) rfl wt_1_178 dX1_takenIn_12 ?_
      refine lv_iconst (v := 1) hx hb dX1_takenIn_15 (by decide) ?_
      refine r_row (q' := (gp i 9)) X hP (lt_g hi (by decide)) ((Lq_g_7 hi) _) (vpc (by decide)) ixc_1 (by decide) rfl dX1_takenIn_16 ?_
      refine lv_iload_n hx hb dX1_takenIn_17 rfl (lv_at hl 3 rfl) ?_
      obtain ⟨hin_2, h⟩ := gx_some h
      refine r_iald X hP (lt_g8 (j := 1) hi (by decide)) ((La_g_mrow (j := 1) hi (by decide)) _) hin_2 rfl dX1_takenIn_18 ?_
      refine lv_iload_n hx hb dX1_takenIn_19 rfl (lv_at hl 1 rfl) ?_
      refine lv_ishr hx hb dX1_takenIn_20 ?_
      refine lv_iconst (v := 1) hx hb dX1_takenIn_21 (by decide) ?_
      refine lv_iand hx hb dX1_takenIn_22 ?_
      refine lv_iadd hx hb dX1_takenIn_23 ?_
      obtain ⟨x2_3, ex_4, h⟩ := lt_some h
      refine lv_ren ex_4 ?_
      refine lv_istore_n (lv' := [(2, .int x2_3), (0, .ref (A (gp i 0))), (1, .int x1), (3, .int x3)]) hx hb dX1_takenIn_24 rfl hl (by decide) rfl (fun ls hl => ?_)
      obtain ⟨x3_5, ex_6, h⟩ := lt_some h
      refine lv_iinc (v := x3_5) (lv' := [(3, .int x3_5), (2, .int x2_3), (0, .ref (A (gp i 0))), (1, .int x1)]) hx hb dX1_takenIn_25 hl (k := 3) rfl (by rw [ex_6]; rfl) (by decide) rfl (fun ls hl => ?_)
      refine lv_goto (tgt := 4) hx hb dX1_takenIn_28 (by decide) ?_
      exact ih x1 x2_3 x3_5 m _ _ _  h hP hS (lv_sub hl [2, 3, 1, 0] rfl)

def fX1_takenIn (i : Nat) (a1 : Int32) (m : Mm) : Option (Int32 × Mm) := (fX1_takenIn_4 i FL a1 0 0 m)
set_option maxHeartbeats 4000000 in
set_option maxRecDepth 100000 in
theorem tX1_takenIn {l : Launch} {D : va_G} {cA : Nat → ClassId} {A : Nat → Nat} (hI : InjA cN A) {i : Nat} (hi : i < 8) {a1 : Int32} {m m' : Mm} {r : Int32} (h : fX1_takenIn i a1 m = some (r, m')) : Met0 l yX1_takenIn cX1_takenIn 4 (some .int) { frames := 0, cells := 0, slots := 0, locals := 0 } cLay cN D cA A [.ref (A (gp i 0)), .int a1] m (some (.int r)) m' := by
  refine met0_of (by decide) (Nat.le_of_ble_eq_true rfl) hI ?_
  intro p e s m0 below meth c ls X hinit hP hS hl
  generalize ([.ref (A (gp i 0)), .int a1] : List Value).toArray = args at X ⊢
  have hl : lv_has ls 4 [(0, .ref (A (gp i 0))), (1, .int a1)] := hl
  have X : CX cLay cN D cA A p s m0 args meth c "BenchTowels$Gym" cX1_takenIn 4 (some .int) := X
  have hx := X.1
  have hb := X.2.1
  have hml := X.2.2.1
  have hown := X.2.2.2.1
  have hts := X.2.2.2.2.1
  have hF := X.2.2.2.2.2.2.2.2.1
  rewrite [fX1_takenIn] at h
  refine lv_iconst (v := 0) hx hb dX1_takenIn_0 (by decide) ?_
  refine lv_istore_n (lv' := [(2, .int 0), (0, .ref (A (gp i 0))), (1, .int a1)]) hx hb dX1_takenIn_1 rfl hl (by decide) rfl (fun ls hl => ?_)
  refine lv_iconst (v := 0) hx hb dX1_takenIn_2 (by decide) ?_
  refine lv_istore_n (lv' := [(3, .int 0), (2, .int 0), (0, .ref (A (gp i 0))), (1, .int a1)]) hx hb dX1_takenIn_3 rfl hl (by decide) rfl (fun ls hl => ?_)
  exact tX1_takenIn_4 hI hi   X FL a1 0 0 m _ _ _  h hP hS (lv_sub hl [2, 3, 1, 0] rfl)

end
