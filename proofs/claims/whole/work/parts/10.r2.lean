-- the reference's methods walked, by program (wip/whole/gen)
section
variable {p : Program} {l : Launch} {e : Env} {s : State} {m0 : MethodId} {args : Array Value} {below : List Frame} {meth : Method} {c : Code} {D : va_G} {cA : Nat → ClassId} {A : Nat → Nat}
def fX12_canAll_111 (K47 : Int32 → Int32 → Int32 → Int64 → Int32 → Int64 → Int32 → Int32 → Mm → Option (Int32 × Mm)) (x1 : Int32) (x2 : Int32) (x3 : Int32) (x4 : Int64) (x6 : Int32) (x9 : Int32) (x10 : Int32) (s0 : Int64) (m : Mm) : Option (Int32 × Mm) := lt ((s0 ||| 0) : Int64) fun x7_24 => lt ((x10 : Int32) + 1) fun x10_26 => (K47 x1 x2 x3 x4 x6 x7_24 x9 x10_26 m)
set_option maxHeartbeats 4000000 in
set_option maxRecDepth 100000 in
theorem tX12_canAll_111 (hI : InjA rN A)  {r : Int32} {m' : Mm} {K47 : Int32 → Int32 → Int32 → Int64 → Int32 → Int64 → Int32 → Int32 → Mm → Option (Int32 × Mm)} (hK47 : ∀ (x1 : Int32) (x2 : Int32) (x3 : Int32) (x4 : Int64) (x6 : Int32) (x7 : Int64) (x9 : Int32) (x10 : Int32) (m : Mm) (H : Heap) (locs : List Loc) (ls : Array Slot), K47 x1 x2 x3 x4 x6 x7 x9 x10 m = some (r, m') → va_P D vwCl (wsOf rLay rN cA A m) H → va_S (AW rN A) s.heap H locs → lv_has ls 11 [(0, .ref (A 0)), (1, .int x1), (2, .int x2), (3, .int x3), (4, .long x4), (6, .int x6), (7, .long x7), (9, .int x9), (10, .int x10)] → W p l e { frames := 3, cells := 0, slots := 0, locals := 66 } s m0 args below meth c H locs 0 0 (ZR below args s rLay rN D cA A (some (.int r)) m') (F0 m0 47 ls [])) (X : CX rLay rN D cA A p s m0 args meth c "BenchTowelsModel" cX12_canAll 11 (some .boolean)) : ∀ (x1 : Int32) (x2 : Int32) (x3 : Int32) (x4 : Int64) (x6 : Int32) (x9 : Int32) (x10 : Int32) (s0 : Int64) (m : Mm) (H : Heap) (locs : List Loc) (ls : Array Slot), fX12_canAll_111 K47 x1 x2 x3 x4 x6 x9 x10 s0 m = some (r, m') → va_P D vwCl (wsOf rLay rN cA A m) H → va_S (AW rN A) s.heap H locs → lv_has ls 11 [(0, .ref (A 0)), (1, .int x1), (2, .int x2), (3, .int x3), (4, .long x4), (6, .int x6), (9, .int x9), (10, .int x10)] → W p l e { frames := 3, cells := 0, slots := 0, locals := 66 } s m0 args below meth c H locs 0 0 (ZR below args s rLay rN D cA A (some (.int r)) m') (F0 m0 111 ls [.long s0]) := by
  have hx := X.1
  have hb := X.2.1
  have hml := X.2.2.1
  have hown := X.2.2.2.1
  have hts := X.2.2.2.2.1
  have hF := X.2.2.2.2.2.2.2.2.1
  intro x1 x2 x3 x4 x6 x9 x10 s0 m H locs ls h hP hS hl
  rewrite [fX12_canAll_111] at h
  refine lv_lconst (v := 0) hx hb dX12_canAll_111 (by decide) ?_
  refine lv_lor hx hb dX12_canAll_112 ?_
  obtain ⟨x7_24, ex_25, h⟩ := lt_some h
  refine lv_renl ex_25 ?_
  refine lv_lstore (lv' := [(7, .long x7_24), (0, .ref (A 0)), (1, .int x1), (2, .int x2), (3, .int x3), (4, .long x4), (6, .int x6), (9, .int x9), (10, .int x10)]) hx hb dX12_canAll_113 hl (by decide) rfl (fun ls hl => ?_)
  obtain ⟨x10_26, ex_27, h⟩ := lt_some h
  refine lv_iinc (v := x10_26) (lv' := [(10, .int x10_26), (7, .long x7_24), (0, .ref (A 0)), (1, .int x1), (2, .int x2), (3, .int x3), (4, .long x4), (6, .int x6), (9, .int x9)]) hx hb dX12_canAll_115 hl (k := 8) rfl (by rw [ex_27]; rfl) (by decide) rfl (fun ls hl => ?_)
  refine lv_goto (tgt := 47) hx hb dX12_canAll_118 (by decide) ?_
  exact hK47 x1 x2 x3 x4 x6 x7_24 x9 x10_26 m _ _ _ h hP hS (lv_sub hl [2, 3, 4, 5, 6, 7, 1, 8, 0] rfl)

def fX12_canAll_47 (K24 : Int32 → Int32 → Int32 → Int64 → Int32 → Int64 → Int32 → Mm → Option (Int32 × Mm)) : Nat → Int32 → Int32 → Int32 → Int64 → Int32 → Int64 → Int32 → Int32 → Mm → Option (Int32 × Mm)
  | 0, _, _, _, _, _, _, _, _, _ => none
  | n + 1, x1, x2, x3, x4, x6, x7, x9, x10, m => (if (64 : Int32) ≤ x10 then lt ((x9 : Int32) + 1) fun x9_12 => (K24 x1 x2 x3 x4 x6 x7 x9_12 m) else (if ((x1 >>> (x9 &&& 31)) &&& 1) = 1 then bd (fX12_may x9 x6 m) fun r_17 m_18 => (if r_17 = 0 then lt ((x9 : Int32) + 1) fun x9_21 => (K24 x1 x2 x3 x4 x6 x7 x9_21 m_18) else (if (lg_cmp ((x4 >>> (Int32.toInt64 x10 &&& 63)) &&& 1) 1) = 0 then (if ((x10 >>> (x9 &&& 31)) &&& 1) = 0 then lt ((x7 ||| ((1 : Int64) <<< (Int32.toInt64 (x10 ||| ((1 : Int32) <<< (x9 &&& 31))) &&& 63))) : Int64) fun x7_29 => lt ((x10 : Int32) + 1) fun x10_31 => (fX12_canAll_47 K24 n x1 x2 x3 x4 x6 x7_29 x9 x10_31 m_18) else fX12_canAll_111 (fun x1 x2 x3 x4 x6 x7 x9 x10 m => fX12_canAll_47 K24 n x1 x2 x3 x4 x6 x7 x9 x10 m) x1 x2 x3 x4 x6 x9 x10 x7 m_18) else fX12_canAll_111 (fun x1 x2 x3 x4 x6 x7 x9 x10 m => fX12_canAll_47 K24 n x1 x2 x3 x4 x6 x7 x9 x10 m) x1 x2 x3 x4 x6 x9 x10 x7 m_18)) else lt ((x9 : Int32) + 1) fun x9_15 => (K24 x1 x2 x3 x4 x6 x7 x9_15 m)))
set_option maxHeartbeats 4000000 in
set_option maxRecDepth 100000 in
theorem tX12_canAll_47 (hI : InjA rN A)  {r : Int32} {m' : Mm} {K24 : Int32 → Int32 → Int32 → Int64 → Int32 → Int64 → Int32 → Mm → Option (Int32 × Mm)} (hK24 : ∀ (x1 : Int32) (x2 : Int32) (x3 : Int32) (x4 : Int64) (x6 : Int32) (x7 : Int64) (x9 : Int32) (m : Mm) (H : Heap) (locs : List Loc) (ls : Array Slot), K24 x1 x2 x3 x4 x6 x7 x9 m = some (r, m') → va_P D vwCl (wsOf rLay rN cA A m) H → va_S (AW rN A) s.heap H locs → lv_has ls 11 [(0, .ref (A 0)), (1, .int x1), (2, .int x2), (3, .int x3), (4, .long x4), (6, .int x6), (7, .long x7), (9, .int x9)] → W p l e { frames := 3, cells := 0, slots := 0, locals := 66 } s m0 args below meth c H locs 0 0 (ZR below args s rLay rN D cA A (some (.int r)) m') (F0 m0 24 ls [])) (X : CX rLay rN D cA A p s m0 args meth c "BenchTowelsModel" cX12_canAll 11 (some .boolean)) : ∀ (n : Nat) (x1 : Int32) (x2 : Int32) (x3 : Int32) (x4 : Int64) (x6 : Int32) (x7 : Int64) (x9 : Int32) (x10 : Int32) (m : Mm) (H : Heap) (locs : List Loc) (ls : Array Slot), fX12_canAll_47 K24 n x1 x2 x3 x4 x6 x7 x9 x10 m = some (r, m') → va_P D vwCl (wsOf rLay rN cA A m) H → va_S (AW rN A) s.heap H locs → lv_has ls 11 [(0, .ref (A 0)), (1, .int x1), (2, .int x2), (3, .int x3), (4, .long x4), (6, .int x6), (7, .long x7), (9, .int x9), (10, .int x10)] → W p l e { frames := 3, cells := 0, slots := 0, locals := 66 } s m0 args below meth c H locs 0 0 (ZR below args s rLay rN D cA A (some (.int r)) m') (F0 m0 47 ls []) := by
  have hx := X.1
  have hb := X.2.1
  have hml := X.2.2.1
  have hown := X.2.2.2.1
  have hts := X.2.2.2.2.1
  have hF := X.2.2.2.2.2.2.2.2.1
  intro n
  induction n with
  | zero =>
    intro x1 x2 x3 x4 x6 x7 x9 x10 m H locs ls h hP hS hl
    exact absurd h (by rewrite [fX12_canAll_47]; exact fun q => by cases q)
  | succ n ih =>
    intro x1 x2 x3 x4 x6 x7 x9 x10 m H locs ls h hP hS hl
    rewrite [fX12_canAll_47] at h
    refine lv_iload hx hb dX12_canAll_47 (lv_at hl 8 rfl) ?_
    refine lv_bipush (v := 64) hx hb dX12_canAll_49 (by decide) ?_
    refine lv_icmp_ge (tgt := 121) hx hb dX12_canAll_51 (by decide) (fun c_11 => ?_) (fun c_11 => ?_)
    · have h := ifp c_11 h
      obtain ⟨x9_12, ex_13, h⟩ := lt_some h
      refine lv_iinc (v := x9_12) (lv' := [(9, .int x9_12), (0, .ref (A 0)), (1, .int x1), (2, .int x2), (3, .int x3), (4, .long x4), (6, .int x6), (7, .long x7), (10, .int x10)]) hx hb dX12_canAll_121 hl (k := 7) rfl (by rw [ex_13]; rfl) (by decide) rfl (fun ls hl => ?_)
      refine lv_goto (tgt := 24) hx hb dX12_canAll_124 (by decide) ?_
      exact hK24 x1 x2 x3 x4 x6 x7 x9_12 m _ _ _ h hP hS (lv_sub hl [1, 2, 3, 4, 5, 6, 7, 0] rfl)
    · have h := ifn c_11 h
      refine lv_iload_n hx hb dX12_canAll_54 rfl (lv_at hl 1 rfl) ?_
      refine lv_iload hx hb dX12_canAll_55 (lv_at hl 7 rfl) ?_
      refine lv_ishr hx hb dX12_canAll_57 ?_
      refine lv_iconst (v := 1) hx hb dX12_canAll_58 (by decide) ?_
      refine lv_iand hx hb dX12_canAll_59 ?_
      refine lv_iconst (v := 1) hx hb dX12_canAll_60 (by decide) ?_
      refine lv_icmp_ne (tgt := 121) hx hb dX12_canAll_61 (by decide) (fun c_14 => ?_) (fun c_14 => ?_)
      · have h := ifn c_14 h
        obtain ⟨x9_15, ex_16, h⟩ := lt_some h
        refine lv_iinc (v := x9_15) (lv' := [(9, .int x9_15), (0, .ref (A 0)), (1, .int x1), (2, .int x2), (3, .int x3), (4, .long x4), (6, .int x6), (7, .long x7), (10, .int x10)]) hx hb dX12_canAll_121 hl (k := 7) rfl (by rw [ex_16]; rfl) (by decide) rfl (fun ls hl => ?_)
        refine lv_goto (tgt := 24) hx hb dX12_canAll_124 (by decide) ?_
        exact hK24 x1 x2 x3 x4 x6 x7 x9_15 m _ _ _ h hP hS (lv_sub hl [1, 2, 3, 4, 5, 6, 7, 0] rfl)
      · have h := ifp c_14 h
        refine lv_aload_n hx hb dX12_canAll_64 rfl (lv_at hl 0 rfl) ?_
        refine lv_iload hx hb dX12_canAll_65 (lv_at hl 7 rfl) ?_
        refine lv_iload hx hb dX12_canAll_67 (lv_at hl 5 rfl) ?_
        obtain ⟨r_17, m_18, hc_19, h⟩ := bd_some h
        refine c_V (rest := []) X hP hS (tX12_may hI  hc_19) (by decide) (L_ref _) rfl wt_6_72 wt_6_74 ws_2_9 wt_1_13 wt_6_75 ⟨rfl, hy_X12_may⟩ ⟨rfl, rfl⟩ ⟨Nat.le_of_ble_eq_true rfl, Nat.le_of_ble_eq_true rfl⟩ rfl hl.1 rfl (Nat.le_of_ble_eq_true rfl) dX12_canAll_69 rfl (fun H locs hP hS => ?_)
        refine lv_if_eq (tgt := 121) hx hb dX12_canAll_72 (by decide) (fun c_20 => ?_) (fun c_20 => ?_)
        · have h := ifp c_20 h
          obtain ⟨x9_21, ex_22, h⟩ := lt_some h
          refine lv_iinc (v := x9_21) (lv' := [(9, .int x9_21), (0, .ref (A 0)), (1, .int x1), (2, .int x2), (3, .int x3), (4, .long x4), (6, .int x6), (7, .long x7), (10, .int x10)]) hx hb dX12_canAll_121 hl (k := 7) rfl (by rw [ex_22]; rfl) (by decide) rfl (fun ls hl => ?_)
          refine lv_goto (tgt := 24) hx hb dX12_canAll_124 (by decide) ?_
          exact hK24 x1 x2 x3 x4 x6 x7 x9_21 m_18 _ _ _ h hP hS (lv_sub hl [1, 2, 3, 4, 5, 6, 7, 0] rfl)
        · have h := ifn c_20 h
          refine lv_lload hx hb dX12_canAll_75 (lv_at hl 6 rfl) ?_
          refine lv_lload hx hb dX12_canAll_77 (lv_at hl 4 rfl) ?_
          refine lv_iload hx hb dX12_canAll_79 (lv_at hl 8 rfl) ?_
          refine lv_lshr hx hb dX12_canAll_81 rfl ?_
          refine lv_lconst (v := 1) hx hb dX12_canAll_82 (by decide) ?_
          refine lv_land hx hb dX12_canAll_83 ?_
          refine lv_lconst (v := 1) hx hb dX12_canAll_84 (by decide) ?_
          refine W.lcmp hx hb dX12_canAll_85 ?_
          refine lv_if_ne (tgt := 111) hx hb dX12_canAll_86 (by decide) (fun c_23 => ?_) (fun c_23 => ?_)
          · have h := ifn c_23 h
            exact tX12_canAll_111 hI   (fun x1 x2 x3 x4 x6 x7 x9 x10 m H locs ls h hP hS hl => ih x1 x2 x3 x4 x6 x7 x9 x10 m H locs ls  h hP hS hl) X x1 x2 x3 x4 x6 x9 x10 x7 m_18 _ _ _  h hP hS (lv_sub hl [0, 1, 2, 3, 4, 5, 7, 8] rfl)
          · have h := ifp c_23 h
            refine lv_iload hx hb dX12_canAll_89 (lv_at hl 8 rfl) ?_
            refine lv_iload hx hb dX12_canAll_91 (lv_at hl 7 rfl) ?_
            refine lv_ishr hx hb dX12_canAll_93 ?_
            refine lv_iconst (v := 1) hx hb dX12_canAll_94 (by decide) ?_
            refine lv_iand hx hb dX12_canAll_95 ?_
            refine lv_if_ne (tgt := 111) hx hb dX12_canAll_96 (by decide) (fun c_28 => ?_) (fun c_28 => ?_)
            · have h := ifn c_28 h
              exact tX12_canAll_111 hI   (fun x1 x2 x3 x4 x6 x7 x9 x10 m H locs ls h hP hS hl => ih x1 x2 x3 x4 x6 x7 x9 x10 m H locs ls  h hP hS hl) X x1 x2 x3 x4 x6 x9 x10 x7 m_18 _ _ _  h hP hS (lv_sub hl [0, 1, 2, 3, 4, 5, 7, 8] rfl)
            · have h := ifp c_28 h
              refine lv_lconst (v := 1) hx hb dX12_canAll_99 (by decide) ?_
              refine lv_iload hx hb dX12_canAll_100 (lv_at hl 8 rfl) ?_
              refine lv_iconst (v := 1) hx hb dX12_canAll_102 (by decide) ?_
              refine lv_iload hx hb dX12_canAll_103 (lv_at hl 7 rfl) ?_
              refine lv_ishl hx hb dX12_canAll_105 ?_
              refine lv_ior hx hb dX12_canAll_106 ?_
              refine lv_lshl hx hb dX12_canAll_107 rfl ?_
              refine lv_goto (tgt := 112) hx hb dX12_canAll_108 (by decide) ?_
              refine lv_lor hx hb dX12_canAll_112 ?_
              obtain ⟨x7_29, ex_30, h⟩ := lt_some h
              refine lv_renl ex_30 ?_
              refine lv_lstore (lv' := [(7, .long x7_29), (0, .ref (A 0)), (1, .int x1), (2, .int x2), (3, .int x3), (4, .long x4), (6, .int x6), (9, .int x9), (10, .int x10)]) hx hb dX12_canAll_113 hl (by decide) rfl (fun ls hl => ?_)
              obtain ⟨x10_31, ex_32, h⟩ := lt_some h
              refine lv_iinc (v := x10_31) (lv' := [(10, .int x10_31), (7, .long x7_29), (0, .ref (A 0)), (1, .int x1), (2, .int x2), (3, .int x3), (4, .long x4), (6, .int x6), (9, .int x9)]) hx hb dX12_canAll_115 hl (k := 8) rfl (by rw [ex_32]; rfl) (by decide) rfl (fun ls hl => ?_)
              refine lv_goto (tgt := 47) hx hb dX12_canAll_118 (by decide) ?_
              exact ih x1 x2 x3 x4 x6 x7_29 x9 x10_31 m_18 _ _ _  h hP hS (lv_sub hl [2, 3, 4, 5, 6, 7, 1, 8, 0] rfl)

def fX12_canAll_24 (K11 : Int32 → Int32 → Int32 → Int64 → Int32 → Mm → Option (Int32 × Mm)) : Nat → Int32 → Int32 → Int32 → Int64 → Int32 → Int64 → Int32 → Mm → Option (Int32 × Mm)
  | 0, _, _, _, _, _, _, _, _ => none
  | n + 1, x1, x2, x3, x4, x6, x7, x9, m => (if ((m 1 0) : Int32) ≤ x9 then lt ((x6 : Int32) + 1) fun x6_6 => (K11 x1 x2 x3 x7 x6_6 m) else (if ((x3 >>> (x6 &&& 31)) &&& 1) = 0 then (fX12_canAll_47 (fun x1 x2 x3 x4 x6 x7 x9 m => fX12_canAll_24 K11 n x1 x2 x3 x4 x6 x7 x9 m) FL x1 x2 x3 x4 x6 x7 x9 0 m) else lt ((x6 : Int32) + 1) fun x6_9 => (K11 x1 x2 x3 x7 x6_9 m)))
set_option maxHeartbeats 4000000 in
set_option maxRecDepth 100000 in
theorem tX12_canAll_24 (hI : InjA rN A)  {r : Int32} {m' : Mm} {K11 : Int32 → Int32 → Int32 → Int64 → Int32 → Mm → Option (Int32 × Mm)} (hK11 : ∀ (x1 : Int32) (x2 : Int32) (x3 : Int32) (x4 : Int64) (x6 : Int32) (m : Mm) (H : Heap) (locs : List Loc) (ls : Array Slot), K11 x1 x2 x3 x4 x6 m = some (r, m') → va_P D vwCl (wsOf rLay rN cA A m) H → va_S (AW rN A) s.heap H locs → lv_has ls 11 [(0, .ref (A 0)), (1, .int x1), (2, .int x2), (3, .int x3), (4, .long x4), (6, .int x6)] → W p l e { frames := 3, cells := 0, slots := 0, locals := 66 } s m0 args below meth c H locs 0 0 (ZR below args s rLay rN D cA A (some (.int r)) m') (F0 m0 11 ls [])) (X : CX rLay rN D cA A p s m0 args meth c "BenchTowelsModel" cX12_canAll 11 (some .boolean)) : ∀ (n : Nat) (x1 : Int32) (x2 : Int32) (x3 : Int32) (x4 : Int64) (x6 : Int32) (x7 : Int64) (x9 : Int32) (m : Mm) (H : Heap) (locs : List Loc) (ls : Array Slot), fX12_canAll_24 K11 n x1 x2 x3 x4 x6 x7 x9 m = some (r, m') → va_P D vwCl (wsOf rLay rN cA A m) H → va_S (AW rN A) s.heap H locs → lv_has ls 11 [(0, .ref (A 0)), (1, .int x1), (2, .int x2), (3, .int x3), (4, .long x4), (6, .int x6), (7, .long x7), (9, .int x9)] → W p l e { frames := 3, cells := 0, slots := 0, locals := 66 } s m0 args below meth c H locs 0 0 (ZR below args s rLay rN D cA A (some (.int r)) m') (F0 m0 24 ls []) := by
  have hx := X.1
  have hb := X.2.1
  have hml := X.2.2.1
  have hown := X.2.2.2.1
  have hts := X.2.2.2.2.1
  have hF := X.2.2.2.2.2.2.2.2.1
  intro n
  induction n with
  | zero =>
    intro x1 x2 x3 x4 x6 x7 x9 m H locs ls h hP hS hl
    exact absurd h (by rewrite [fX12_canAll_24]; exact fun q => by cases q)
  | succ n ih =>
    intro x1 x2 x3 x4 x6 x7 x9 m H locs ls h hP hS hl
    rewrite [fX12_canAll_24] at h
    refine lv_iload hx hb dX12_canAll_24 (lv_at hl 7 rfl) ?_
    refine lv_aload_n hx hb dX12_canAll_26 rfl (lv_at hl 0 rfl) ?_
    refine r_get kc_12 0 X hP (by decide) (L_ref _) (by decide) rfl wt_5_172 dX12_canAll_27 ?_
    refine lv_iconst (v := 0) hx hb dX12_canAll_30 (by decide) ?_
    refine r_iald X hP (by decide) (Lr_1 _) (vpc (by decide)) ixc_0 dX12_canAll_31 ?_
    refine lv_icmp_ge (tgt := 127) hx hb dX12_canAll_32 (by decide) (fun c_5 => ?_) (fun c_5 => ?_)
    · have h := ifp c_5 h
      refine lv_lload hx hb dX12_canAll_127 (lv_at hl 6 rfl) ?_
      refine lv_lstore (lv' := [(4, .long x7), (0, .ref (A 0)), (1, .int x1), (2, .int x2), (3, .int x3), (6, .int x6), (7, .long x7), (9, .int x9)]) hx hb dX12_canAll_129 hl (by decide) rfl (fun ls hl => ?_)
      obtain ⟨x6_6, ex_7, h⟩ := lt_some h
      refine lv_iinc (v := x6_6) (lv' := [(6, .int x6_6), (4, .long x7), (0, .ref (A 0)), (1, .int x1), (2, .int x2), (3, .int x3), (7, .long x7), (9, .int x9)]) hx hb dX12_canAll_131 hl (k := 5) rfl (by rw [ex_7]; rfl) (by decide) rfl (fun ls hl => ?_)
      refine lv_goto (tgt := 11) hx hb dX12_canAll_134 (by decide) ?_
      exact hK11 x1 x2 x3 x7 x6_6 m _ _ _ h hP hS (lv_sub hl [2, 3, 4, 5, 1, 0] rfl)
    · have h := ifn c_5 h
      refine lv_iload_n hx hb dX12_canAll_35 rfl (lv_at hl 3 rfl) ?_
      refine lv_iload hx hb dX12_canAll_36 (lv_at hl 5 rfl) ?_
      refine lv_ishr hx hb dX12_canAll_38 ?_
      refine lv_iconst (v := 1) hx hb dX12_canAll_39 (by decide) ?_
      refine lv_iand hx hb dX12_canAll_40 ?_
      refine lv_if_ne (tgt := 127) hx hb dX12_canAll_41 (by decide) (fun c_8 => ?_) (fun c_8 => ?_)
      · have h := ifn c_8 h
        refine lv_lload hx hb dX12_canAll_127 (lv_at hl 6 rfl) ?_
        refine lv_lstore (lv' := [(4, .long x7), (0, .ref (A 0)), (1, .int x1), (2, .int x2), (3, .int x3), (6, .int x6), (7, .long x7), (9, .int x9)]) hx hb dX12_canAll_129 hl (by decide) rfl (fun ls hl => ?_)
        obtain ⟨x6_9, ex_10, h⟩ := lt_some h
        refine lv_iinc (v := x6_9) (lv' := [(6, .int x6_9), (4, .long x7), (0, .ref (A 0)), (1, .int x1), (2, .int x2), (3, .int x3), (7, .long x7), (9, .int x9)]) hx hb dX12_canAll_131 hl (k := 5) rfl (by rw [ex_10]; rfl) (by decide) rfl (fun ls hl => ?_)
        refine lv_goto (tgt := 11) hx hb dX12_canAll_134 (by decide) ?_
        exact hK11 x1 x2 x3 x7 x6_9 m _ _ _ h hP hS (lv_sub hl [2, 3, 4, 5, 1, 0] rfl)
      · have h := ifp c_8 h
        refine lv_iconst (v := 0) hx hb dX12_canAll_44 (by decide) ?_
        refine lv_istore (lv' := [(10, .int 0), (0, .ref (A 0)), (1, .int x1), (2, .int x2), (3, .int x3), (4, .long x4), (6, .int x6), (7, .long x7), (9, .int x9)]) hx hb dX12_canAll_45 hl (by decide) rfl (fun ls hl => ?_)
        exact tX12_canAll_47 hI   (fun x1 x2 x3 x4 x6 x7 x9 m H locs ls h hP hS hl => ih x1 x2 x3 x4 x6 x7 x9 m H locs ls  h hP hS hl) X FL x1 x2 x3 x4 x6 x7 x9 0 m _ _ _  h hP hS (lv_sub hl [1, 2, 3, 4, 5, 6, 7, 8, 0] rfl)

def fX12_canAll_11  : Nat → Int32 → Int32 → Int32 → Int64 → Int32 → Mm → Option (Int32 × Mm)
  | 0, _, _, _, _, _, _ => none
  | n + 1, x1, x2, x3, x4, x6, m => (if (x2 : Int32) < x6 then (if (lg_cmp ((x4 >>> (Int32.toInt64 x1 &&& 63)) &&& 1) 1) = 0 then some (1, m) else some (0, m)) else (fX12_canAll_24 (fun x1 x2 x3 x4 x6 m => fX12_canAll_11 n x1 x2 x3 x4 x6 m) FL x1 x2 x3 x4 x6 x4 0 m))
set_option maxHeartbeats 4000000 in
set_option maxRecDepth 100000 in
theorem tX12_canAll_11 (hI : InjA rN A)  {r : Int32} {m' : Mm} (X : CX rLay rN D cA A p s m0 args meth c "BenchTowelsModel" cX12_canAll 11 (some .boolean)) : ∀ (n : Nat) (x1 : Int32) (x2 : Int32) (x3 : Int32) (x4 : Int64) (x6 : Int32) (m : Mm) (H : Heap) (locs : List Loc) (ls : Array Slot), fX12_canAll_11 n x1 x2 x3 x4 x6 m = some (r, m') → va_P D vwCl (wsOf rLay rN cA A m) H → va_S (AW rN A) s.heap H locs → lv_has ls 11 [(0, .ref (A 0)), (1, .int x1), (2, .int x2), (3, .int x3), (4, .long x4), (6, .int x6)] → W p l e { frames := 3, cells := 0, slots := 0, locals := 66 } s m0 args below meth c H locs 0 0 (ZR below args s rLay rN D cA A (some (.int r)) m') (F0 m0 11 ls []) := by
  have hx := X.1
  have hb := X.2.1
  have hml := X.2.2.1
  have hown := X.2.2.2.1
  have hts := X.2.2.2.2.1
  have hF := X.2.2.2.2.2.2.2.2.1
  intro n
  induction n with
  | zero =>
    intro x1 x2 x3 x4 x6 m H locs ls h hP hS hl
    exact absurd h (by rewrite [fX12_canAll_11]; exact fun q => by cases q)
  | succ n ih =>
    intro x1 x2 x3 x4 x6 m H locs ls h hP hS hl
    rewrite [fX12_canAll_11] at h
    refine lv_iload hx hb dX12_canAll_11 (lv_at hl 5 rfl) ?_
    refine lv_iload_n hx hb dX12_canAll_13 rfl (lv_at hl 2 rfl) ?_
    refine lv_icmp_gt (tgt := 137) hx hb dX12_canAll_14 (by decide) (fun c_3 => ?_) (fun c_3 => ?_)
    · have h := ifp c_3 h
      refine lv_lload hx hb dX12_canAll_137 (lv_at hl 4 rfl) ?_
      refine lv_iload_n hx hb dX12_canAll_139 rfl (lv_at hl 1 rfl) ?_
      refine lv_lshr hx hb dX12_canAll_140 rfl ?_
      refine lv_lconst (v := 1) hx hb dX12_canAll_141 (by decide) ?_
      refine lv_land hx hb dX12_canAll_142 ?_
      refine lv_lconst (v := 1) hx hb dX12_canAll_143 (by decide) ?_
      refine W.lcmp hx hb dX12_canAll_144 ?_
      refine lv_if_ne (tgt := 152) hx hb dX12_canAll_145 (by decide) (fun c_4 => ?_) (fun c_4 => ?_)
      · have h := ifn c_4 h
        refine lv_iconst (v := 0) hx hb dX12_canAll_152 (by decide) ?_
        exact r_zret X (Or.inl rfl) hP hS dX12_canAll_153 h
      · have h := ifp c_4 h
        refine lv_iconst (v := 1) hx hb dX12_canAll_148 (by decide) ?_
        refine lv_goto (tgt := 153) hx hb dX12_canAll_149 (by decide) ?_
        exact r_zret X (Or.inr rfl) hP hS dX12_canAll_153 h
    · have h := ifn c_3 h
      refine lv_lload hx hb dX12_canAll_17 (lv_at hl 4 rfl) ?_
      refine lv_lstore (lv' := [(7, .long x4), (0, .ref (A 0)), (1, .int x1), (2, .int x2), (3, .int x3), (4, .long x4), (6, .int x6)]) hx hb dX12_canAll_19 hl (by decide) rfl (fun ls hl => ?_)
      refine lv_iconst (v := 0) hx hb dX12_canAll_21 (by decide) ?_
      refine lv_istore (lv' := [(9, .int 0), (7, .long x4), (0, .ref (A 0)), (1, .int x1), (2, .int x2), (3, .int x3), (4, .long x4), (6, .int x6)]) hx hb dX12_canAll_22 hl (by decide) rfl (fun ls hl => ?_)
      exact tX12_canAll_24 hI   (fun x1 x2 x3 x4 x6 m H locs ls h hP hS hl => ih x1 x2 x3 x4 x6 m H locs ls  h hP hS hl) X FL x1 x2 x3 x4 x6 x4 0 m _ _ _  h hP hS (lv_sub hl [2, 3, 4, 5, 6, 7, 1, 0] rfl)

def fX12_canAll (a1 : Int32) (a2 : Int32) (a3 : Int32) (m : Mm) : Option (Int32 × Mm) := lt (m 1 1) fun x6_1 => (fX12_canAll_11  FL a1 a2 a3 1 x6_1 m)
set_option maxHeartbeats 4000000 in
set_option maxRecDepth 100000 in
theorem tX12_canAll {l : Launch} {D : va_G} {cA : Nat → ClassId} {A : Nat → Nat} (hI : InjA rN A) {a1 : Int32} {a2 : Int32} {a3 : Int32} {m m' : Mm} {r : Int32} (h : fX12_canAll a1 a2 a3 m = some (r, m')) : Met0 l yX12_canAll cX12_canAll 11 (some .boolean) { frames := 3, cells := 0, slots := 0, locals := 66 } rLay rN D cA A [.ref (A 0), .int a1, .int a2, .int a3] m (some (.int r)) m' := by
  refine met0_of (by decide) (Nat.le_of_ble_eq_true rfl) hI ?_
  intro p e s m0 below meth c ls X hinit hP hS hl
  generalize ([.ref (A 0), .int a1, .int a2, .int a3] : List Value).toArray = args at X ⊢
  have hl : lv_has ls 11 [(0, .ref (A 0)), (1, .int a1), (2, .int a2), (3, .int a3)] := hl
  have X : CX rLay rN D cA A p s m0 args meth c "BenchTowelsModel" cX12_canAll 11 (some .boolean) := X
  have hx := X.1
  have hb := X.2.1
  have hml := X.2.2.1
  have hown := X.2.2.2.1
  have hts := X.2.2.2.2.1
  have hF := X.2.2.2.2.2.2.2.2.1
  rewrite [fX12_canAll] at h
  refine lv_lconst (v := 1) hx hb dX12_canAll_0 (by decide) ?_
  refine lv_lstore (lv' := [(4, .long 1), (0, .ref (A 0)), (1, .int a1), (2, .int a2), (3, .int a3)]) hx hb dX12_canAll_1 hl (by decide) rfl (fun ls hl => ?_)
  refine lv_aload_n hx hb dX12_canAll_3 rfl (lv_at hl 1 rfl) ?_
  refine r_get kc_12 0 X hP (by decide) (L_ref _) (by decide) rfl wt_5_172 dX12_canAll_4 ?_
  refine lv_iconst (v := 1) hx hb dX12_canAll_7 (by decide) ?_
  refine r_iald X hP (by decide) (Lr_1 _) (vpc (by decide)) ixc_1 dX12_canAll_8 ?_
  obtain ⟨x6_1, ex_2, h⟩ := lt_some h
  refine lv_ren ex_2 ?_
  refine lv_istore (lv' := [(6, .int x6_1), (4, .long 1), (0, .ref (A 0)), (1, .int a1), (2, .int a2), (3, .int a3)]) hx hb dX12_canAll_9 hl (by decide) rfl (fun ls hl => ?_)
  exact tX12_canAll_11 hI    X FL a1 a2 a3 1 x6_1 m _ _ _  h hP hS (lv_sub hl [2, 3, 4, 5, 1, 0] rfl)

def fX12_gathersBy_44  (x2 : Int32) (m : Mm) : Option (Int32 × Mm) := (if ((m 1 2) : Int32) ≤ x2 then some ((-1), m) else some (x2, m))
set_option maxHeartbeats 4000000 in
set_option maxRecDepth 100000 in
theorem tX12_gathersBy_44 (hI : InjA rN A)  {r : Int32} {m' : Mm} (X : CX rLay rN D cA A p s m0 args meth c "BenchTowelsModel" cX12_gathersBy 3 (some .int)) : ∀ (x2 : Int32) (m : Mm) (H : Heap) (locs : List Loc) (ls : Array Slot), fX12_gathersBy_44 x2 m = some (r, m') → va_P D vwCl (wsOf rLay rN cA A m) H → va_S (AW rN A) s.heap H locs → lv_has ls 3 [(0, .ref (A 0)), (2, .int x2)] → W p l e { frames := 4, cells := 0, slots := 0, locals := 96 } s m0 args below meth c H locs 0 0 (ZR below args s rLay rN D cA A (some (.int r)) m') (F0 m0 44 ls []) := by
  have hx := X.1
  have hb := X.2.1
  have hml := X.2.2.1
  have hown := X.2.2.2.1
  have hts := X.2.2.2.2.1
  have hF := X.2.2.2.2.2.2.2.2.1
  intro x2 m H locs ls h hP hS hl
  rewrite [fX12_gathersBy_44] at h
  refine lv_iload_n hx hb dX12_gathersBy_44 rfl (lv_at hl 1 rfl) ?_
  refine lv_aload_n hx hb dX12_gathersBy_45 rfl (lv_at hl 0 rfl) ?_
  refine r_get kc_12 0 X hP (by decide) (L_ref _) (by decide) rfl wt_5_172 dX12_gathersBy_46 ?_
  refine lv_iconst (v := 2) hx hb dX12_gathersBy_49 (by decide) ?_
  refine r_iald X hP (by decide) (Lr_1 _) (vpc (by decide)) ixc_2 dX12_gathersBy_50 ?_
  refine lv_icmp_ge (tgt := 58) hx hb dX12_gathersBy_51 (by decide) (fun c_5 => ?_) (fun c_5 => ?_)
  · have h := ifp c_5 h
    refine lv_iconst (v := (-1)) hx hb dX12_gathersBy_58 (by decide) ?_
    exact r_iret X hP hS dX12_gathersBy_59 h
  · have h := ifn c_5 h
    refine lv_iload_n hx hb dX12_gathersBy_54 rfl (lv_at hl 1 rfl) ?_
    refine lv_goto (tgt := 59) hx hb dX12_gathersBy_55 (by decide) ?_
    exact r_iret X hP hS dX12_gathersBy_59 h

def fX12_gathersBy_18  : Nat → Int32 → Int32 → Mm → Option (Int32 × Mm)
  | 0, _, _, _ => none
  | n + 1, x1, x2, m => (if ((m 1 2) : Int32) ≤ x2 then fX12_gathersBy_44  x2 m else bd (fX12_canAll x1 x2 (0 : Int32) m) fun r_6 m_7 => (if r_6 = 0 then lt ((x2 : Int32) + 1) fun x2_10 => (fX12_gathersBy_18 n x1 x2_10 m_7) else fX12_gathersBy_44  x2 m_7))
set_option maxHeartbeats 4000000 in
set_option maxRecDepth 100000 in
theorem tX12_gathersBy_18 (hI : InjA rN A)  {r : Int32} {m' : Mm} (X : CX rLay rN D cA A p s m0 args meth c "BenchTowelsModel" cX12_gathersBy 3 (some .int)) : ∀ (n : Nat) (x1 : Int32) (x2 : Int32) (m : Mm) (H : Heap) (locs : List Loc) (ls : Array Slot), fX12_gathersBy_18 n x1 x2 m = some (r, m') → va_P D vwCl (wsOf rLay rN cA A m) H → va_S (AW rN A) s.heap H locs → lv_has ls 3 [(0, .ref (A 0)), (1, .int x1), (2, .int x2)] → W p l e { frames := 4, cells := 0, slots := 0, locals := 96 } s m0 args below meth c H locs 0 0 (ZR below args s rLay rN D cA A (some (.int r)) m') (F0 m0 18 ls []) := by
  have hx := X.1
  have hb := X.2.1
  have hml := X.2.2.1
  have hown := X.2.2.2.1
  have hts := X.2.2.2.2.1
  have hF := X.2.2.2.2.2.2.2.2.1
  intro n
  induction n with
  | zero =>
    intro x1 x2 m H locs ls h hP hS hl
    exact absurd h (by rewrite [fX12_gathersBy_18]; exact fun q => by cases q)
  | succ n ih =>
    intro x1 x2 m H locs ls h hP hS hl
    rewrite [fX12_gathersBy_18] at h
    refine lv_iload_n hx hb dX12_gathersBy_18 rfl (lv_at hl 2 rfl) ?_
    refine lv_aload_n hx hb dX12_gathersBy_19 rfl (lv_at hl 0 rfl) ?_
    refine r_get kc_12 0 X hP (by decide) (L_ref _) (by decide) rfl wt_5_172 dX12_gathersBy_20 ?_
    refine lv_iconst (v := 2) hx hb dX12_gathersBy_23 (by decide) ?_
    refine r_iald X hP (by decide) (Lr_1 _) (vpc (by decide)) ixc_2 dX12_gathersBy_24 ?_
    refine lv_icmp_ge (tgt := 44) hx hb dX12_gathersBy_25 (by decide) (fun c_4 => ?_) (fun c_4 => ?_)
    · have h := ifp c_4 h
      exact tX12_gathersBy_44 hI    X x2 m _ _ _  h hP hS (lv_sub hl [0, 2] rfl)
    · have h := ifn c_4 h
      refine lv_aload_n hx hb dX12_gathersBy_28 rfl (lv_at hl 0 rfl) ?_
      refine lv_iload_n hx hb dX12_gathersBy_29 rfl (lv_at hl 1 rfl) ?_
      refine lv_iload_n hx hb dX12_gathersBy_30 rfl (lv_at hl 2 rfl) ?_
      refine lv_iconst (v := 0) hx hb dX12_gathersBy_31 (by decide) ?_
      obtain ⟨r_6, m_7, hc_8, h⟩ := bd_some h
      refine c_V (rest := []) X hP hS (tX12_canAll hI  hc_8) (by decide) (L_ref _) rfl wt_7_64 wt_7_66 ws_4_14 wt_1_13 wt_7_67 ⟨rfl, hy_X12_canAll⟩ ⟨rfl, rfl⟩ ⟨Nat.le_of_ble_eq_true rfl, Nat.le_of_ble_eq_true rfl⟩ rfl hl.1 rfl (Nat.le_of_ble_eq_true rfl) dX12_gathersBy_32 rfl (fun H locs hP hS => ?_)
      refine lv_if_ne (tgt := 44) hx hb dX12_gathersBy_35 (by decide) (fun c_9 => ?_) (fun c_9 => ?_)
      · have h := ifn c_9 h
        exact tX12_gathersBy_44 hI    X x2 m_7 _ _ _  h hP hS (lv_sub hl [0, 2] rfl)
      · have h := ifp c_9 h
        obtain ⟨x2_10, ex_11, h⟩ := lt_some h
        refine lv_iinc (v := x2_10) (lv' := [(2, .int x2_10), (0, .ref (A 0)), (1, .int x1)]) hx hb dX12_gathersBy_38 hl (k := 2) rfl (by rw [ex_11]; rfl) (by decide) rfl (fun ls hl => ?_)
        refine lv_goto (tgt := 18) hx hb dX12_gathersBy_41 (by decide) ?_
        exact ih x1 x2_10 m_7 _ _ _  h hP hS (lv_sub hl [1, 2, 0] rfl)

def fX12_gathersBy (a1 : Int32) (m : Mm) : Option (Int32 × Mm) := (if a1 = 0 then some ((m 1 1), m) else lt (m 1 1) fun x2_2 => (fX12_gathersBy_18  FL a1 x2_2 m))
set_option maxHeartbeats 4000000 in
set_option maxRecDepth 100000 in
theorem tX12_gathersBy {l : Launch} {D : va_G} {cA : Nat → ClassId} {A : Nat → Nat} (hI : InjA rN A) {a1 : Int32} {m m' : Mm} {r : Int32} (h : fX12_gathersBy a1 m = some (r, m')) : Met0 l yX12_gathersBy cX12_gathersBy 3 (some .int) { frames := 4, cells := 0, slots := 0, locals := 96 } rLay rN D cA A [.ref (A 0), .int a1] m (some (.int r)) m' := by
  refine met0_of (by decide) (Nat.le_of_ble_eq_true rfl) hI ?_
  intro p e s m0 below meth c ls X hinit hP hS hl
  generalize ([.ref (A 0), .int a1] : List Value).toArray = args at X ⊢
  have hl : lv_has ls 3 [(0, .ref (A 0)), (1, .int a1)] := hl
  have X : CX rLay rN D cA A p s m0 args meth c "BenchTowelsModel" cX12_gathersBy 3 (some .int) := X
  have hx := X.1
  have hb := X.2.1
  have hml := X.2.2.1
  have hown := X.2.2.2.1
  have hts := X.2.2.2.2.1
  have hF := X.2.2.2.2.2.2.2.2.1
  rewrite [fX12_gathersBy] at h
  refine lv_iload_n hx hb dX12_gathersBy_0 rfl (lv_at hl 1 rfl) ?_
  refine lv_if_ne (tgt := 11) hx hb dX12_gathersBy_1 (by decide) (fun c_1 => ?_) (fun c_1 => ?_)
  · have h := ifn c_1 h
    refine lv_aload_n hx hb dX12_gathersBy_11 rfl (lv_at hl 0 rfl) ?_
    refine r_get kc_12 0 X hP (by decide) (L_ref _) (by decide) rfl wt_5_172 dX12_gathersBy_12 ?_
    refine lv_iconst (v := 1) hx hb dX12_gathersBy_15 (by decide) ?_
    refine r_iald X hP (by decide) (Lr_1 _) (vpc (by decide)) ixc_1 dX12_gathersBy_16 ?_
    obtain ⟨x2_2, ex_3, h⟩ := lt_some h
    refine lv_ren ex_3 ?_
    refine lv_istore_n (lv' := [(2, .int x2_2), (0, .ref (A 0)), (1, .int a1)]) hx hb dX12_gathersBy_17 rfl hl (by decide) rfl (fun ls hl => ?_)
    exact tX12_gathersBy_18 hI    X FL a1 x2_2 m _ _ _  h hP hS (lv_sub hl [1, 2, 0] rfl)
  · have h := ifp c_1 h
    refine lv_aload_n hx hb dX12_gathersBy_4 rfl (lv_at hl 0 rfl) ?_
    refine r_get kc_12 0 X hP (by decide) (L_ref _) (by decide) rfl wt_5_172 dX12_gathersBy_5 ?_
    refine lv_iconst (v := 1) hx hb dX12_gathersBy_8 (by decide) ?_
    refine r_iald X hP (by decide) (Lr_1 _) (vpc (by decide)) ixc_1 dX12_gathersBy_9 ?_
    exact r_iret X hP hS dX12_gathersBy_10 h

def fX12_gather (a1 : Int32) (m : Mm) : Option (Int32 × Mm) := bd (fX12_isSet a1 m) fun r_1 m_2 => (if r_1 = 0 then some ((-1), m_2) else bd (fX12_gathersBy a1 m_2) fun r_5 m_6 => (if (0 : Int32) ≤ r_5 then some (r_5, m_6) else some ((-3), m_6)))
set_option maxHeartbeats 4000000 in
set_option maxRecDepth 100000 in
theorem tX12_gather {l : Launch} {D : va_G} {cA : Nat → ClassId} {A : Nat → Nat} (hI : InjA rN A) {a1 : Int32} {m m' : Mm} {r : Int32} (h : fX12_gather a1 m = some (r, m')) : Met0 l yX12_gather cX12_gather 3 (some .int) { frames := 5, cells := 0, slots := 0, locals := 118 } rLay rN D cA A [.ref (A 0), .int a1] m (some (.int r)) m' := by
  refine met0_of (by decide) (Nat.le_of_ble_eq_true rfl) hI ?_
  intro p e s m0 below meth c ls X hinit hP hS hl
  generalize ([.ref (A 0), .int a1] : List Value).toArray = args at X ⊢
  have hl : lv_has ls 3 [(0, .ref (A 0)), (1, .int a1)] := hl
  have X : CX rLay rN D cA A p s m0 args meth c "BenchTowelsModel" cX12_gather 3 (some .int) := X
  have hx := X.1
  have hb := X.2.1
  have hml := X.2.2.1
  have hown := X.2.2.2.1
  have hts := X.2.2.2.2.1
  have hF := X.2.2.2.2.2.2.2.2.1
  rewrite [fX12_gather] at h
  refine lv_aload_n hx hb dX12_gather_0 rfl (lv_at hl 0 rfl) ?_
  refine lv_iload_n hx hb dX12_gather_1 rfl (lv_at hl 1 rfl) ?_
  obtain ⟨r_1, m_2, hc_3, h⟩ := bd_some h
  refine c_V (rest := []) X hP hS (tX12_isSet hI  hc_3) (by decide) (L_ref _) rfl wt_7_56 wt_7_58 ws_4_12 wt_1_13 wt_7_59 ⟨rfl, hy_X12_isSet⟩ ⟨rfl, rfl⟩ ⟨Nat.le_of_ble_eq_true rfl, Nat.le_of_ble_eq_true rfl⟩ rfl hl.1 rfl (Nat.le_of_ble_eq_true rfl) dX12_gather_2 rfl (fun H locs hP hS => ?_)
  refine lv_if_ne (tgt := 10) hx hb dX12_gather_5 (by decide) (fun c_4 => ?_) (fun c_4 => ?_)
  · have h := ifn c_4 h
    refine lv_aload_n hx hb dX12_gather_10 rfl (lv_at hl 0 rfl) ?_
    refine lv_iload_n hx hb dX12_gather_11 rfl (lv_at hl 1 rfl) ?_
    obtain ⟨r_5, m_6, hc_7, h⟩ := bd_some h
    refine c_V (rest := []) X hP hS (tX12_gathersBy hI  hc_7) (by decide) (L_ref _) rfl wt_7_60 wt_7_62 ws_4_13 wt_1_13 wt_7_63 ⟨rfl, hy_X12_gathersBy⟩ ⟨rfl, rfl⟩ ⟨Nat.le_of_ble_eq_true rfl, Nat.le_of_ble_eq_true rfl⟩ rfl hl.1 rfl (Nat.le_of_ble_eq_true rfl) dX12_gather_12 rfl (fun H locs hP hS => ?_)
    refine lv_istore_n (lv' := [(2, .int r_5), (0, .ref (A 0)), (1, .int a1)]) hx hb dX12_gather_15 rfl hl (by decide) rfl (fun ls hl => ?_)
    refine lv_iload_n hx hb dX12_gather_16 rfl (lv_at hl 0 rfl) ?_
    refine lv_if_ge (tgt := 25) hx hb dX12_gather_17 (by decide) (fun c_8 => ?_) (fun c_8 => ?_)
    · have h := ifp c_8 h
      refine lv_iload_n hx hb dX12_gather_25 rfl (lv_at hl 0 rfl) ?_
      exact r_iret X hP hS dX12_gather_26 h
    · have h := ifn c_8 h
      refine lv_bipush (v := (-3)) hx hb dX12_gather_20 (by decide) ?_
      refine lv_goto (tgt := 26) hx hb dX12_gather_22 (by decide) ?_
      exact r_iret X hP hS dX12_gather_26 h
  · have h := ifp c_4 h
    refine lv_iconst (v := (-1)) hx hb dX12_gather_8 (by decide) ?_
    exact r_iret X hP hS dX12_gather_9 h

def fX12_gathered_91 (K56 : Int32 → Int32 → Int32 → Int32 → Int32 → Int32 → Int32 → Mm → Option (Int32 × Mm)) : Nat → Int32 → Int32 → Int32 → Int32 → Int32 → Int32 → Int32 → Mm → Option (Int32 × Mm)
  | 0, _, _, _, _, _, _, _, _ => none
  | n + 1, x1, x2, x3, x4, x5, x6, x7, m => (if ((x4 >>> (x6 &&& 31)) &&& 1) = 1 then lt ((x6 : Int32) + 1) fun x6_25 => (fX12_gathered_91 K56 n x1 x2 x3 x4 x5 x6_25 x7 m) else bd (fX12_may x7 x6 m) fun r_27 m_28 => (if r_27 = 0 then lt ((x6 : Int32) + 1) fun x6_31 => (fX12_gathered_91 K56 n x1 x2 x3 x4 x5 x6_31 x7 m_28) else bd (fX12_canAll x5 x3 (x4 ||| ((1 : Int32) <<< (x6 &&& 31))) m_28) fun r_33 m_34 => (if r_33 = 0 then lt ((x6 : Int32) + 1) fun x6_41 => (fX12_gathered_91 K56 n x1 x2 x3 x4 x5 x6_41 x7 m_34) else lt (x4 ||| ((1 : Int32) <<< (x6 &&& 31))) fun x4_37 => lt ((x7 : Int32) + 1) fun x7_39 => (K56 x1 x2 x3 x4_37 x5 x6 x7_39 m_34))))
set_option maxHeartbeats 4000000 in
set_option maxRecDepth 100000 in
theorem tX12_gathered_91 (hI : InjA rN A)  {r : Int32} {m' : Mm} {K56 : Int32 → Int32 → Int32 → Int32 → Int32 → Int32 → Int32 → Mm → Option (Int32 × Mm)} (hK56 : ∀ (x1 : Int32) (x2 : Int32) (x3 : Int32) (x4 : Int32) (x5 : Int32) (x6 : Int32) (x7 : Int32) (m : Mm) (H : Heap) (locs : List Loc) (ls : Array Slot), K56 x1 x2 x3 x4 x5 x6 x7 m = some (r, m') → va_P D vwCl (wsOf rLay rN cA A m) H → va_S (AW rN A) s.heap H locs → lv_has ls 8 [(0, .ref (A 0)), (1, .int x1), (2, .int x2), (3, .int x3), (4, .int x4), (5, .int x5), (6, .int x6), (7, .int x7)] → W p l e { frames := 5, cells := 0, slots := 0, locals := 118 } s m0 args below meth c H locs 0 0 (ZR below args s rLay rN D cA A (some (.int r)) m') (F0 m0 56 ls [])) (X : CX rLay rN D cA A p s m0 args meth c "BenchTowelsModel" cX12_gathered 8 (some .int)) : ∀ (n : Nat) (x1 : Int32) (x2 : Int32) (x3 : Int32) (x4 : Int32) (x5 : Int32) (x6 : Int32) (x7 : Int32) (m : Mm) (H : Heap) (locs : List Loc) (ls : Array Slot), fX12_gathered_91 K56 n x1 x2 x3 x4 x5 x6 x7 m = some (r, m') → va_P D vwCl (wsOf rLay rN cA A m) H → va_S (AW rN A) s.heap H locs → lv_has ls 8 [(0, .ref (A 0)), (1, .int x1), (2, .int x2), (3, .int x3), (4, .int x4), (5, .int x5), (6, .int x6), (7, .int x7)] → W p l e { frames := 5, cells := 0, slots := 0, locals := 118 } s m0 args below meth c H locs 0 0 (ZR below args s rLay rN D cA A (some (.int r)) m') (F0 m0 91 ls []) := by
  have hx := X.1
  have hb := X.2.1
  have hml := X.2.2.1
  have hown := X.2.2.2.1
  have hts := X.2.2.2.2.1
  have hF := X.2.2.2.2.2.2.2.2.1
  intro n
  induction n with
  | zero =>
    intro x1 x2 x3 x4 x5 x6 x7 m H locs ls h hP hS hl
    exact absurd h (by rewrite [fX12_gathered_91]; exact fun q => by cases q)
  | succ n ih =>
    intro x1 x2 x3 x4 x5 x6 x7 m H locs ls h hP hS hl
    rewrite [fX12_gathered_91] at h
    refine lv_iload hx hb dX12_gathered_91 (lv_at hl 4 rfl) ?_
    refine lv_iload hx hb dX12_gathered_93 (lv_at hl 6 rfl) ?_
    refine lv_ishr hx hb dX12_gathered_95 ?_
    refine lv_iconst (v := 1) hx hb dX12_gathered_96 (by decide) ?_
    refine lv_iand hx hb dX12_gathered_97 ?_
    refine lv_iconst (v := 1) hx hb dX12_gathered_98 (by decide) ?_
    refine lv_icmp_eq (tgt := 130) hx hb dX12_gathered_99 (by decide) (fun c_24 => ?_) (fun c_24 => ?_)
    · have h := ifp c_24 h
      obtain ⟨x6_25, ex_26, h⟩ := lt_some h
      refine lv_iinc (v := x6_25) (lv' := [(6, .int x6_25), (0, .ref (A 0)), (1, .int x1), (2, .int x2), (3, .int x3), (4, .int x4), (5, .int x5), (7, .int x7)]) hx hb dX12_gathered_130 hl (k := 6) rfl (by rw [ex_26]; rfl) (by decide) rfl (fun ls hl => ?_)
      refine lv_goto (tgt := 91) hx hb dX12_gathered_133 (by decide) ?_
      exact ih x1 x2 x3 x4 x5 x6_25 x7 m _ _ _  h hP hS (lv_sub hl [1, 2, 3, 4, 5, 6, 0, 7] rfl)
    · have h := ifn c_24 h
      refine lv_aload_n hx hb dX12_gathered_102 rfl (lv_at hl 0 rfl) ?_
      refine lv_iload hx hb dX12_gathered_103 (lv_at hl 7 rfl) ?_
      refine lv_iload hx hb dX12_gathered_105 (lv_at hl 6 rfl) ?_
      obtain ⟨r_27, m_28, hc_29, h⟩ := bd_some h
      refine c_V (rest := []) X hP hS (tX12_may hI  hc_29) (by decide) (L_ref _) rfl wt_6_72 wt_6_74 ws_2_9 wt_1_13 wt_6_75 ⟨rfl, hy_X12_may⟩ ⟨rfl, rfl⟩ ⟨Nat.le_of_ble_eq_true rfl, Nat.le_of_ble_eq_true rfl⟩ rfl hl.1 rfl (Nat.le_of_ble_eq_true rfl) dX12_gathered_107 rfl (fun H locs hP hS => ?_)
      refine lv_if_eq (tgt := 130) hx hb dX12_gathered_110 (by decide) (fun c_30 => ?_) (fun c_30 => ?_)
      · have h := ifp c_30 h
        obtain ⟨x6_31, ex_32, h⟩ := lt_some h
        refine lv_iinc (v := x6_31) (lv' := [(6, .int x6_31), (0, .ref (A 0)), (1, .int x1), (2, .int x2), (3, .int x3), (4, .int x4), (5, .int x5), (7, .int x7)]) hx hb dX12_gathered_130 hl (k := 6) rfl (by rw [ex_32]; rfl) (by decide) rfl (fun ls hl => ?_)
        refine lv_goto (tgt := 91) hx hb dX12_gathered_133 (by decide) ?_
        exact ih x1 x2 x3 x4 x5 x6_31 x7 m_28 _ _ _  h hP hS (lv_sub hl [1, 2, 3, 4, 5, 6, 0, 7] rfl)
      · have h := ifn c_30 h
        refine lv_aload_n hx hb dX12_gathered_113 rfl (lv_at hl 0 rfl) ?_
        refine lv_iload hx hb dX12_gathered_114 (lv_at hl 5 rfl) ?_
        refine lv_iload_n hx hb dX12_gathered_116 rfl (lv_at hl 3 rfl) ?_
        refine lv_iload hx hb dX12_gathered_117 (lv_at hl 4 rfl) ?_
        refine lv_iconst (v := 1) hx hb dX12_gathered_119 (by decide) ?_
        refine lv_iload hx hb dX12_gathered_120 (lv_at hl 6 rfl) ?_
        refine lv_ishl hx hb dX12_gathered_122 ?_
        refine lv_ior hx hb dX12_gathered_123 ?_
        obtain ⟨r_33, m_34, hc_35, h⟩ := bd_some h
        refine c_V (rest := []) X hP hS (tX12_canAll hI  hc_35) (by decide) (L_ref _) rfl wt_7_64 wt_7_66 ws_4_14 wt_1_13 wt_7_67 ⟨rfl, hy_X12_canAll⟩ ⟨rfl, rfl⟩ ⟨Nat.le_of_ble_eq_true rfl, Nat.le_of_ble_eq_true rfl⟩ rfl hl.1 rfl (Nat.le_of_ble_eq_true rfl) dX12_gathered_124 rfl (fun H locs hP hS => ?_)
        refine lv_if_ne (tgt := 136) hx hb dX12_gathered_127 (by decide) (fun c_36 => ?_) (fun c_36 => ?_)
        · have h := ifn c_36 h
          refine lv_iload hx hb dX12_gathered_136 (lv_at hl 4 rfl) ?_
          refine lv_iconst (v := 1) hx hb dX12_gathered_138 (by decide) ?_
          refine lv_iload hx hb dX12_gathered_139 (lv_at hl 6 rfl) ?_
          refine lv_ishl hx hb dX12_gathered_141 ?_
          refine lv_ior hx hb dX12_gathered_142 ?_
          obtain ⟨x4_37, ex_38, h⟩ := lt_some h
          refine lv_ren ex_38 ?_
          refine lv_istore (lv' := [(4, .int x4_37), (0, .ref (A 0)), (1, .int x1), (2, .int x2), (3, .int x3), (5, .int x5), (6, .int x6), (7, .int x7)]) hx hb dX12_gathered_143 hl (by decide) rfl (fun ls hl => ?_)
          obtain ⟨x7_39, ex_40, h⟩ := lt_some h
          refine lv_iinc (v := x7_39) (lv' := [(7, .int x7_39), (4, .int x4_37), (0, .ref (A 0)), (1, .int x1), (2, .int x2), (3, .int x3), (5, .int x5), (6, .int x6)]) hx hb dX12_gathered_145 hl (k := 7) rfl (by rw [ex_40]; rfl) (by decide) rfl (fun ls hl => ?_)
          refine lv_goto (tgt := 56) hx hb dX12_gathered_148 (by decide) ?_
          exact hK56 x1 x2 x3 x4_37 x5 x6 x7_39 m_34 _ _ _ h hP hS (lv_sub hl [2, 3, 4, 5, 1, 6, 7, 0] rfl)
        · have h := ifp c_36 h
          obtain ⟨x6_41, ex_42, h⟩ := lt_some h
          refine lv_iinc (v := x6_41) (lv' := [(6, .int x6_41), (0, .ref (A 0)), (1, .int x1), (2, .int x2), (3, .int x3), (4, .int x4), (5, .int x5), (7, .int x7)]) hx hb dX12_gathered_130 hl (k := 6) rfl (by rw [ex_42]; rfl) (by decide) rfl (fun ls hl => ?_)
          refine lv_goto (tgt := 91) hx hb dX12_gathered_133 (by decide) ?_
          exact ih x1 x2 x3 x4 x5 x6_41 x7 m_34 _ _ _  h hP hS (lv_sub hl [1, 2, 3, 4, 5, 6, 0, 7] rfl)

def fX12_gathered_56  : Nat → Int32 → Int32 → Int32 → Int32 → Int32 → Int32 → Int32 → Mm → Option (Int32 × Mm)
  | 0, _, _, _, _, _, _, _, _ => none
  | n + 1, x1, x2, x3, x4, x5, x6, x7, m => (if (x2 : Int32) < x7 then some (x6, m) else (if ((x1 >>> (x7 &&& 31)) &&& 1) = 1 then lt (x5 &&& (((1 : Int32) <<< (x7 &&& 31)) ^^^ (-1))) fun x5_20 => lt (m 1 1) fun x6_22 => (fX12_gathered_91 (fun x1 x2 x3 x4 x5 x6 x7 m => fX12_gathered_56 n x1 x2 x3 x4 x5 x6 x7 m) FL x1 x2 x3 x4 x5_20 x6_22 x7 m) else lt ((x7 : Int32) + 1) fun x7_18 => (fX12_gathered_56 n x1 x2 x3 x4 x5 x6 x7_18 m)))
set_option maxHeartbeats 4000000 in
set_option maxRecDepth 100000 in
theorem tX12_gathered_56 (hI : InjA rN A)  {r : Int32} {m' : Mm} (X : CX rLay rN D cA A p s m0 args meth c "BenchTowelsModel" cX12_gathered 8 (some .int)) : ∀ (n : Nat) (x1 : Int32) (x2 : Int32) (x3 : Int32) (x4 : Int32) (x5 : Int32) (x6 : Int32) (x7 : Int32) (m : Mm) (H : Heap) (locs : List Loc) (ls : Array Slot), fX12_gathered_56 n x1 x2 x3 x4 x5 x6 x7 m = some (r, m') → va_P D vwCl (wsOf rLay rN cA A m) H → va_S (AW rN A) s.heap H locs → lv_has ls 8 [(0, .ref (A 0)), (1, .int x1), (2, .int x2), (3, .int x3), (4, .int x4), (5, .int x5), (6, .int x6), (7, .int x7)] → W p l e { frames := 5, cells := 0, slots := 0, locals := 118 } s m0 args below meth c H locs 0 0 (ZR below args s rLay rN D cA A (some (.int r)) m') (F0 m0 56 ls []) := by
  have hx := X.1
  have hb := X.2.1
  have hml := X.2.2.1
  have hown := X.2.2.2.1
  have hts := X.2.2.2.2.1
  have hF := X.2.2.2.2.2.2.2.2.1
  intro n
  induction n with
  | zero =>
    intro x1 x2 x3 x4 x5 x6 x7 m H locs ls h hP hS hl
    exact absurd h (by rewrite [fX12_gathered_56]; exact fun q => by cases q)
  | succ n ih =>
    intro x1 x2 x3 x4 x5 x6 x7 m H locs ls h hP hS hl
    rewrite [fX12_gathered_56] at h
    refine lv_iload hx hb dX12_gathered_56 (lv_at hl 7 rfl) ?_
    refine lv_iload_n hx hb dX12_gathered_58 rfl (lv_at hl 2 rfl) ?_
    refine lv_icmp_gt (tgt := 151) hx hb dX12_gathered_59 (by decide) (fun c_16 => ?_) (fun c_16 => ?_)
    · have h := ifp c_16 h
      refine lv_iload hx hb dX12_gathered_151 (lv_at hl 6 rfl) ?_
      exact r_iret X hP hS dX12_gathered_153 h
    · have h := ifn c_16 h
      refine lv_iload_n hx hb dX12_gathered_62 rfl (lv_at hl 1 rfl) ?_
      refine lv_iload hx hb dX12_gathered_63 (lv_at hl 7 rfl) ?_
      refine lv_ishr hx hb dX12_gathered_65 ?_
      refine lv_iconst (v := 1) hx hb dX12_gathered_66 (by decide) ?_
      refine lv_iand hx hb dX12_gathered_67 ?_
      refine lv_iconst (v := 1) hx hb dX12_gathered_68 (by decide) ?_
      refine lv_icmp_ne (tgt := 145) hx hb dX12_gathered_69 (by decide) (fun c_17 => ?_) (fun c_17 => ?_)
      · have h := ifn c_17 h
        obtain ⟨x7_18, ex_19, h⟩ := lt_some h
        refine lv_iinc (v := x7_18) (lv' := [(7, .int x7_18), (0, .ref (A 0)), (1, .int x1), (2, .int x2), (3, .int x3), (4, .int x4), (5, .int x5), (6, .int x6)]) hx hb dX12_gathered_145 hl (k := 7) rfl (by rw [ex_19]; rfl) (by decide) rfl (fun ls hl => ?_)
        refine lv_goto (tgt := 56) hx hb dX12_gathered_148 (by decide) ?_
        exact ih x1 x2 x3 x4 x5 x6 x7_18 m _ _ _  h hP hS (lv_sub hl [1, 2, 3, 4, 5, 6, 7, 0] rfl)
      · have h := ifp c_17 h
        refine lv_iload hx hb dX12_gathered_72 (lv_at hl 5 rfl) ?_
        refine lv_iconst (v := 1) hx hb dX12_gathered_74 (by decide) ?_
        refine lv_iload hx hb dX12_gathered_75 (lv_at hl 7 rfl) ?_
        refine lv_ishl hx hb dX12_gathered_77 ?_
        refine lv_iconst (v := (-1)) hx hb dX12_gathered_78 (by decide) ?_
        refine lv_ixor hx hb dX12_gathered_79 ?_
        refine lv_iand hx hb dX12_gathered_80 ?_
        obtain ⟨x5_20, ex_21, h⟩ := lt_some h
        refine lv_ren ex_21 ?_
        refine lv_istore (lv' := [(5, .int x5_20), (0, .ref (A 0)), (1, .int x1), (2, .int x2), (3, .int x3), (4, .int x4), (6, .int x6), (7, .int x7)]) hx hb dX12_gathered_81 hl (by decide) rfl (fun ls hl => ?_)
        refine lv_aload_n hx hb dX12_gathered_83 rfl (lv_at hl 1 rfl) ?_
        refine r_get kc_12 0 X hP (by decide) (L_ref _) (by decide) rfl wt_5_172 dX12_gathered_84 ?_
        refine lv_iconst (v := 1) hx hb dX12_gathered_87 (by decide) ?_
        refine r_iald X hP (by decide) (Lr_1 _) (vpc (by decide)) ixc_1 dX12_gathered_88 ?_
        obtain ⟨x6_22, ex_23, h⟩ := lt_some h
        refine lv_ren ex_23 ?_
        refine lv_istore (lv' := [(6, .int x6_22), (5, .int x5_20), (0, .ref (A 0)), (1, .int x1), (2, .int x2), (3, .int x3), (4, .int x4), (7, .int x7)]) hx hb dX12_gathered_89 hl (by decide) rfl (fun ls hl => ?_)
        exact tX12_gathered_91 hI   (fun x1 x2 x3 x4 x5 x6 x7 m H locs ls h hP hS hl => ih x1 x2 x3 x4 x5 x6 x7 m H locs ls  h hP hS hl) X FL x1 x2 x3 x4 x5_20 x6_22 x7 m _ _ _  h hP hS (lv_sub hl [2, 3, 4, 5, 6, 1, 0, 7] rfl)

def fX12_gathered (a1 : Int32) (a2 : Int32) (m : Mm) : Option (Int32 × Mm) := bd (fX12_isSet a1 m) fun r_1 m_2 => (if r_1 = 0 then some ((-1), m_2) else bd (fX12_isOne a2 m_2) fun r_5 m_6 => (if r_5 = 0 then some ((-1), m_6) else bd (fX12_gathersBy a1 m_6) fun r_9 m_10 => (if r_9 < 0 then some ((-3), m_10) else (if ((a1 >>> (a2 &&& 31)) &&& 1) = 0 then some ((-3), m_10) else lt (m_10 1 1) fun x6_14 => (fX12_gathered_56  FL a1 a2 r_9 0 a1 x6_14 0 m_10)))))
set_option maxHeartbeats 4000000 in
set_option maxRecDepth 100000 in
theorem tX12_gathered {l : Launch} {D : va_G} {cA : Nat → ClassId} {A : Nat → Nat} (hI : InjA rN A) {a1 : Int32} {a2 : Int32} {m m' : Mm} {r : Int32} (h : fX12_gathered a1 a2 m = some (r, m')) : Met0 l yX12_gathered cX12_gathered 8 (some .int) { frames := 5, cells := 0, slots := 0, locals := 118 } rLay rN D cA A [.ref (A 0), .int a1, .int a2] m (some (.int r)) m' := by
  refine met0_of (by decide) (Nat.le_of_ble_eq_true rfl) hI ?_
  intro p e s m0 below meth c ls X hinit hP hS hl
  generalize ([.ref (A 0), .int a1, .int a2] : List Value).toArray = args at X ⊢
  have hl : lv_has ls 8 [(0, .ref (A 0)), (1, .int a1), (2, .int a2)] := hl
  have X : CX rLay rN D cA A p s m0 args meth c "BenchTowelsModel" cX12_gathered 8 (some .int) := X
  have hx := X.1
  have hb := X.2.1
  have hml := X.2.2.1
  have hown := X.2.2.2.1
  have hts := X.2.2.2.2.1
  have hF := X.2.2.2.2.2.2.2.2.1
  rewrite [fX12_gathered] at h
  refine lv_aload_n hx hb dX12_gathered_0 rfl (lv_at hl 0 rfl) ?_
  refine lv_iload_n hx hb dX12_gathered_1 rfl (lv_at hl 1 rfl) ?_
  obtain ⟨r_1, m_2, hc_3, h⟩ := bd_some h
  refine c_V (rest := []) X hP hS (tX12_isSet hI  hc_3) (by decide) (L_ref _) rfl wt_7_56 wt_7_58 ws_4_12 wt_1_13 wt_7_59 ⟨rfl, hy_X12_isSet⟩ ⟨rfl, rfl⟩ ⟨Nat.le_of_ble_eq_true rfl, Nat.le_of_ble_eq_true rfl⟩ rfl hl.1 rfl (Nat.le_of_ble_eq_true rfl) dX12_gathered_2 rfl (fun H locs hP hS => ?_)
  refine lv_if_eq (tgt := 16) hx hb dX12_gathered_5 (by decide) (fun c_4 => ?_) (fun c_4 => ?_)
  · have h := ifp c_4 h
    refine lv_iconst (v := (-1)) hx hb dX12_gathered_16 (by decide) ?_
    exact r_iret X hP hS dX12_gathered_17 h
  · have h := ifn c_4 h
    refine lv_aload_n hx hb dX12_gathered_8 rfl (lv_at hl 0 rfl) ?_
    refine lv_iload_n hx hb dX12_gathered_9 rfl (lv_at hl 2 rfl) ?_
    obtain ⟨r_5, m_6, hc_7, h⟩ := bd_some h
    refine c_V (rest := []) X hP hS (tX12_isOne hI  hc_7) (by decide) (L_ref _) rfl wt_6_67 wt_6_69 ws_2_8 wt_1_13 wt_6_70 ⟨rfl, hy_X12_isOne⟩ ⟨rfl, rfl⟩ ⟨Nat.le_of_ble_eq_true rfl, Nat.le_of_ble_eq_true rfl⟩ rfl hl.1 rfl (Nat.le_of_ble_eq_true rfl) dX12_gathered_10 rfl (fun H locs hP hS => ?_)
    refine lv_if_ne (tgt := 18) hx hb dX12_gathered_13 (by decide) (fun c_8 => ?_) (fun c_8 => ?_)
    · have h := ifn c_8 h
      refine lv_aload_n hx hb dX12_gathered_18 rfl (lv_at hl 0 rfl) ?_
      refine lv_iload_n hx hb dX12_gathered_19 rfl (lv_at hl 1 rfl) ?_
      obtain ⟨r_9, m_10, hc_11, h⟩ := bd_some h
      refine c_V (rest := []) X hP hS (tX12_gathersBy hI  hc_11) (by decide) (L_ref _) rfl wt_7_60 wt_7_62 ws_4_13 wt_1_13 wt_7_63 ⟨rfl, hy_X12_gathersBy⟩ ⟨rfl, rfl⟩ ⟨Nat.le_of_ble_eq_true rfl, Nat.le_of_ble_eq_true rfl⟩ rfl hl.1 rfl (Nat.le_of_ble_eq_true rfl) dX12_gathered_20 rfl (fun H locs hP hS => ?_)
      refine lv_istore_n (lv' := [(3, .int r_9), (0, .ref (A 0)), (1, .int a1), (2, .int a2)]) hx hb dX12_gathered_23 rfl hl (by decide) rfl (fun ls hl => ?_)
      refine lv_iload_n hx hb dX12_gathered_24 rfl (lv_at hl 0 rfl) ?_
      refine lv_if_lt (tgt := 36) hx hb dX12_gathered_25 (by decide) (fun c_12 => ?_) (fun c_12 => ?_)
      · have h := ifp c_12 h
        refine lv_bipush (v := (-3)) hx hb dX12_gathered_36 (by decide) ?_
        exact r_iret X hP hS dX12_gathered_38 h
      · have h := ifn c_12 h
        refine lv_iload_n hx hb dX12_gathered_28 rfl (lv_at hl 2 rfl) ?_
        refine lv_iload_n hx hb dX12_gathered_29 rfl (lv_at hl 3 rfl) ?_
        refine lv_ishr hx hb dX12_gathered_30 ?_
        refine lv_iconst (v := 1) hx hb dX12_gathered_31 (by decide) ?_
        refine lv_iand hx hb dX12_gathered_32 ?_
        refine lv_if_ne (tgt := 39) hx hb dX12_gathered_33 (by decide) (fun c_13 => ?_) (fun c_13 => ?_)
        · have h := ifn c_13 h
          refine lv_iconst (v := 0) hx hb dX12_gathered_39 (by decide) ?_
          refine lv_istore (lv' := [(4, .int 0), (3, .int r_9), (0, .ref (A 0)), (1, .int a1), (2, .int a2)]) hx hb dX12_gathered_40 hl (by decide) rfl (fun ls hl => ?_)
          refine lv_iload_n hx hb dX12_gathered_42 rfl (lv_at hl 3 rfl) ?_
          refine lv_istore (lv' := [(5, .int a1), (4, .int 0), (3, .int r_9), (0, .ref (A 0)), (1, .int a1), (2, .int a2)]) hx hb dX12_gathered_43 hl (by decide) rfl (fun ls hl => ?_)
          refine lv_aload_n hx hb dX12_gathered_45 rfl (lv_at hl 3 rfl) ?_
          refine r_get kc_12 0 X hP (by decide) (L_ref _) (by decide) rfl wt_5_172 dX12_gathered_46 ?_
          refine lv_iconst (v := 1) hx hb dX12_gathered_49 (by decide) ?_
          refine r_iald X hP (by decide) (Lr_1 _) (vpc (by decide)) ixc_1 dX12_gathered_50 ?_
          obtain ⟨x6_14, ex_15, h⟩ := lt_some h
          refine lv_ren ex_15 ?_
          refine lv_istore (lv' := [(6, .int x6_14), (5, .int a1), (4, .int 0), (3, .int r_9), (0, .ref (A 0)), (1, .int a1), (2, .int a2)]) hx hb dX12_gathered_51 hl (by decide) rfl (fun ls hl => ?_)
          refine lv_iconst (v := 0) hx hb dX12_gathered_53 (by decide) ?_
          refine lv_istore (lv' := [(7, .int 0), (6, .int x6_14), (5, .int a1), (4, .int 0), (3, .int r_9), (0, .ref (A 0)), (1, .int a1), (2, .int a2)]) hx hb dX12_gathered_54 hl (by decide) rfl (fun ls hl => ?_)
          exact tX12_gathered_56 hI    X FL a1 a2 r_9 0 a1 x6_14 0 m_10 _ _ _  h hP hS (lv_sub hl [5, 6, 7, 4, 3, 2, 1, 0] rfl)
        · have h := ifp c_13 h
          refine lv_bipush (v := (-3)) hx hb dX12_gathered_36 (by decide) ?_
          exact r_iret X hP hS dX12_gathered_38 h
    · have h := ifp c_8 h
      refine lv_iconst (v := (-1)) hx hb dX12_gathered_16 (by decide) ?_
      exact r_iret X hP hS dX12_gathered_17 h

def fX12_free_67  (x2 : Int32) (x4 : Int32) (m : Mm) : Option (Int32 × Mm) := (if (16 : Int32) < (x4 + x2) then some ((-3), m) else some (x4, m))
set_option maxHeartbeats 4000000 in
set_option maxRecDepth 100000 in
theorem tX12_free_67 (hI : InjA rN A)  {r : Int32} {m' : Mm} (X : CX rLay rN D cA A p s m0 args meth c "BenchTowelsModel" cX12_free 5 (some .int)) : ∀ (x2 : Int32) (x4 : Int32) (m : Mm) (H : Heap) (locs : List Loc) (ls : Array Slot), fX12_free_67 x2 x4 m = some (r, m') → va_P D vwCl (wsOf rLay rN cA A m) H → va_S (AW rN A) s.heap H locs → lv_has ls 5 [(2, .int x2), (4, .int x4)] → W p l e { frames := 1, cells := 0, slots := 0, locals := 25 } s m0 args below meth c H locs 0 0 (ZR below args s rLay rN D cA A (some (.int r)) m') (F0 m0 67 ls []) := by
  have hx := X.1
  have hb := X.2.1
  have hml := X.2.2.1
  have hown := X.2.2.2.1
  have hts := X.2.2.2.2.1
  have hF := X.2.2.2.2.2.2.2.2.1
  intro x2 x4 m H locs ls h hP hS hl
  rewrite [fX12_free_67] at h
  refine lv_iload hx hb dX12_free_67 (lv_at hl 1 rfl) ?_
  refine lv_iload_n hx hb dX12_free_69 rfl (lv_at hl 0 rfl) ?_
  refine lv_iadd hx hb dX12_free_70 ?_
  refine lv_bipush (v := 16) hx hb dX12_free_71 (by decide) ?_
  refine lv_icmp_gt (tgt := 81) hx hb dX12_free_73 (by decide) (fun c_14 => ?_) (fun c_14 => ?_)
  · have h := ifp c_14 h
    refine lv_bipush (v := (-3)) hx hb dX12_free_81 (by decide) ?_
    exact r_iret X hP hS dX12_free_83 h
  · have h := ifn c_14 h
    refine lv_iload hx hb dX12_free_76 (lv_at hl 1 rfl) ?_
    refine lv_goto (tgt := 83) hx hb dX12_free_78 (by decide) ?_
    exact r_iret X hP hS dX12_free_83 h

def fX12_free_35  : Nat → Int32 → Int32 → Int32 → Int32 → Mm → Option (Int32 × Mm)
  | 0, _, _, _, _, _ => none
  | n + 1, x1, x2, x3, x4, m => (if (16 : Int32) < (x4 + x2) then fX12_free_67  x2 x4 m else gx ((47 : Int32) + x1) 553 ((if (((m 1 (ix ((47 : Int32) + x1))) >>> (x4 &&& 31)) &&& x3) = 0 then fX12_free_67  x2 x4 m else lt ((x4 : Int32) + 1) fun x4_17 => (fX12_free_35 n x1 x2 x3 x4_17 m))))
set_option maxHeartbeats 4000000 in
set_option maxRecDepth 100000 in
theorem tX12_free_35 (hI : InjA rN A)  {r : Int32} {m' : Mm} (X : CX rLay rN D cA A p s m0 args meth c "BenchTowelsModel" cX12_free 5 (some .int)) : ∀ (n : Nat) (x1 : Int32) (x2 : Int32) (x3 : Int32) (x4 : Int32) (m : Mm) (H : Heap) (locs : List Loc) (ls : Array Slot), fX12_free_35 n x1 x2 x3 x4 m = some (r, m') → va_P D vwCl (wsOf rLay rN cA A m) H → va_S (AW rN A) s.heap H locs → lv_has ls 5 [(0, .ref (A 0)), (1, .int x1), (2, .int x2), (3, .int x3), (4, .int x4)] → W p l e { frames := 1, cells := 0, slots := 0, locals := 25 } s m0 args below meth c H locs 0 0 (ZR below args s rLay rN D cA A (some (.int r)) m') (F0 m0 35 ls []) := by
  have hx := X.1
  have hb := X.2.1
  have hml := X.2.2.1
  have hown := X.2.2.2.1
  have hts := X.2.2.2.2.1
  have hF := X.2.2.2.2.2.2.2.2.1
  intro n
  induction n with
  | zero =>
    intro x1 x2 x3 x4 m H locs ls h hP hS hl
    exact absurd h (by rewrite [fX12_free_35]; exact fun q => by cases q)
  | succ n ih =>
    intro x1 x2 x3 x4 m H locs ls h hP hS hl
    rewrite [fX12_free_35] at h
    refine lv_iload hx hb dX12_free_35 (lv_at hl 4 rfl) ?_
    refine lv_iload_n hx hb dX12_free_37 rfl (lv_at hl 2 rfl) ?_
    refine lv_iadd hx hb dX12_free_38 ?_
    refine lv_bipush (v := 16) hx hb dX12_free_39 (by decide) ?_
    refine lv_icmp_gt (tgt := 67) hx hb dX12_free_41 (by decide) (fun c_13 => ?_) (fun c_13 => ?_)
    · have h := ifp c_13 h
      exact tX12_free_67 hI    X x2 x4 m _ _ _  h hP hS (lv_sub hl [2, 4] rfl)
    · have h := ifn c_13 h
      refine lv_aload_n hx hb dX12_free_44 rfl (lv_at hl 0 rfl) ?_
      refine r_get kc_12 0 X hP (by decide) (L_ref _) (by decide) rfl wt_5_172 dX12_free_45 ?_
      refine lv_bipush (v := 47) hx hb dX12_free_48 (by decide) ?_
      refine lv_iload_n hx hb dX12_free_50 rfl (lv_at hl 1 rfl) ?_
      refine lv_iadd hx hb dX12_free_51 ?_
      obtain ⟨hin_15, h⟩ := gx_some h
      refine r_iald X hP (by decide) (Lr_1 _) hin_15 rfl dX12_free_52 ?_
      refine lv_iload hx hb dX12_free_53 (lv_at hl 4 rfl) ?_
      refine lv_ishr hx hb dX12_free_55 ?_
      refine lv_iload_n hx hb dX12_free_56 rfl (lv_at hl 3 rfl) ?_
      refine lv_iand hx hb dX12_free_57 ?_
      refine lv_if_eq (tgt := 67) hx hb dX12_free_58 (by decide) (fun c_16 => ?_) (fun c_16 => ?_)
      · have h := ifp c_16 h
        exact tX12_free_67 hI    X x2 x4 m _ _ _  h hP hS (lv_sub hl [2, 4] rfl)
      · have h := ifn c_16 h
        obtain ⟨x4_17, ex_18, h⟩ := lt_some h
        refine lv_iinc (v := x4_17) (lv' := [(4, .int x4_17), (0, .ref (A 0)), (1, .int x1), (2, .int x2), (3, .int x3)]) hx hb dX12_free_61 hl (k := 4) rfl (by rw [ex_18]; rfl) (by decide) rfl (fun ls hl => ?_)
        refine lv_goto (tgt := 35) hx hb dX12_free_64 (by decide) ?_
        exact ih x1 x2 x3 x4_17 m _ _ _  h hP hS (lv_sub hl [1, 2, 3, 4, 0] rfl)

def fX12_free (a1 : Int32) (a2 : Int32) (m : Mm) : Option (Int32 × Mm) := bd (fX12_isMachine a1 m) fun r_1 m_2 => (if r_1 = 0 then some ((-1), m_2) else bd (fX12_isIn (Int32.toInt64 a2) (1 : Int64) (16 : Int64) m_2) fun r_5 m_6 => (if r_5 = 0 then some ((-1), m_6) else lt (((1 : Int32) <<< (a2 &&& 31)) - 1) fun x3_9 => lt (m_6 1 1) fun x4_11 => (fX12_free_35  FL a1 a2 x3_9 x4_11 m_6)))
set_option maxHeartbeats 4000000 in
set_option maxRecDepth 100000 in
theorem tX12_free {l : Launch} {D : va_G} {cA : Nat → ClassId} {A : Nat → Nat} (hI : InjA rN A) {a1 : Int32} {a2 : Int32} {m m' : Mm} {r : Int32} (h : fX12_free a1 a2 m = some (r, m')) : Met0 l yX12_free cX12_free 5 (some .int) { frames := 1, cells := 0, slots := 0, locals := 25 } rLay rN D cA A [.ref (A 0), .int a1, .int a2] m (some (.int r)) m' := by
  refine met0_of (by decide) (Nat.le_of_ble_eq_true rfl) hI ?_
  intro p e s m0 below meth c ls X hinit hP hS hl
  generalize ([.ref (A 0), .int a1, .int a2] : List Value).toArray = args at X ⊢
  have hl : lv_has ls 5 [(0, .ref (A 0)), (1, .int a1), (2, .int a2)] := hl
  have X : CX rLay rN D cA A p s m0 args meth c "BenchTowelsModel" cX12_free 5 (some .int) := X
  have hx := X.1
  have hb := X.2.1
  have hml := X.2.2.1
  have hown := X.2.2.2.1
  have hts := X.2.2.2.2.1
  have hF := X.2.2.2.2.2.2.2.2.1
  rewrite [fX12_free] at h
  refine lv_iload_n hx hb dX12_free_0 rfl (lv_at hl 1 rfl) ?_
  obtain ⟨r_1, m_2, hc_3, h⟩ := bd_some h
  refine c_S (rest := []) X hP hS (tX12_isMachine hI  hc_3) wt_6_58 wt_6_59 wt_1_13 wt_6_60 hy_X12_isMachine ⟨rfl, rfl⟩ ⟨Nat.le_of_ble_eq_true rfl, Nat.le_of_ble_eq_true rfl⟩ rfl hl.1 rfl (Nat.le_of_ble_eq_true rfl) dX12_free_1 rfl (fun H locs hP hS => ?_)
  refine lv_if_eq (tgt := 19) hx hb dX12_free_4 (by decide) (fun c_4 => ?_) (fun c_4 => ?_)
  · have h := ifp c_4 h
    refine lv_iconst (v := (-1)) hx hb dX12_free_19 (by decide) ?_
    exact r_iret X hP hS dX12_free_20 h
  · have h := ifn c_4 h
    refine lv_iload_n hx hb dX12_free_7 rfl (lv_at hl 2 rfl) ?_
    refine lv_i2l hx hb dX12_free_8 rfl ?_
    refine lv_lconst (v := 1) hx hb dX12_free_9 (by decide) ?_
    refine lv_ldc2 (v := 16) hx hb hown (hts _ wt_6_138) dX12_free_10 ?_
    obtain ⟨r_5, m_6, hc_7, h⟩ := bd_some h
    refine c_S (rest := []) X hP hS (tX12_isIn hI  hc_7) wt_6_55 wt_6_56 wt_1_13 wt_6_57 hy_X12_isIn ⟨rfl, rfl⟩ ⟨Nat.le_of_ble_eq_true rfl, Nat.le_of_ble_eq_true rfl⟩ rfl hl.1 rfl (Nat.le_of_ble_eq_true rfl) dX12_free_13 rfl (fun H locs hP hS => ?_)
    refine lv_if_ne (tgt := 21) hx hb dX12_free_16 (by decide) (fun c_8 => ?_) (fun c_8 => ?_)
    · have h := ifn c_8 h
      refine lv_iconst (v := 1) hx hb dX12_free_21 (by decide) ?_
      refine lv_iload_n hx hb dX12_free_22 rfl (lv_at hl 2 rfl) ?_
      refine lv_ishl hx hb dX12_free_23 ?_
      refine lv_iconst (v := 1) hx hb dX12_free_24 (by decide) ?_
      refine lv_isub hx hb dX12_free_25 ?_
      obtain ⟨x3_9, ex_10, h⟩ := lt_some h
      refine lv_ren ex_10 ?_
      refine lv_istore_n (lv' := [(3, .int x3_9), (0, .ref (A 0)), (1, .int a1), (2, .int a2)]) hx hb dX12_free_26 rfl hl (by decide) rfl (fun ls hl => ?_)
      refine lv_aload_n hx hb dX12_free_27 rfl (lv_at hl 1 rfl) ?_
      refine r_get kc_12 0 X hP (by decide) (L_ref _) (by decide) rfl wt_5_172 dX12_free_28 ?_
      refine lv_iconst (v := 1) hx hb dX12_free_31 (by decide) ?_
      refine r_iald X hP (by decide) (Lr_1 _) (vpc (by decide)) ixc_1 dX12_free_32 ?_
      obtain ⟨x4_11, ex_12, h⟩ := lt_some h
      refine lv_ren ex_12 ?_
      refine lv_istore (lv' := [(4, .int x4_11), (3, .int x3_9), (0, .ref (A 0)), (1, .int a1), (2, .int a2)]) hx hb dX12_free_33 hl (by decide) rfl (fun ls hl => ?_)
      exact tX12_free_35 hI    X FL a1 a2 x3_9 x4_11 m_6 _ _ _  h hP hS (lv_sub hl [2, 3, 4, 1, 0] rfl)
    · have h := ifp c_8 h
      refine lv_iconst (v := (-1)) hx hb dX12_free_19 (by decide) ?_
      exact r_iret X hP hS dX12_free_20 h

def fX12_takenIn_4  : Nat → Int32 → Int32 → Int32 → Mm → Option (Int32 × Mm)
  | 0, _, _, _, _ => none
  | n + 1, x1, x2, x3, m => (if (6 : Int32) ≤ x3 then some (x2, m) else gx ((47 : Int32) + x3) 553 (lt (x2 + (((m 1 (ix ((47 : Int32) + x3))) >>> (x1 &&& 31)) &&& 1)) fun x2_3 => lt ((x3 : Int32) + 1) fun x3_5 => (fX12_takenIn_4 n x1 x2_3 x3_5 m)))
set_option maxHeartbeats 4000000 in
set_option maxRecDepth 100000 in
theorem tX12_takenIn_4 (hI : InjA rN A)  {r : Int32} {m' : Mm} (X : CX rLay rN D cA A p s m0 args meth c "BenchTowelsModel" cX12_takenIn 4 (some .int)) : ∀ (n : Nat) (x1 : Int32) (x2 : Int32) (x3 : Int32) (m : Mm) (H : Heap) (locs : List Loc) (ls : Array Slot), fX12_takenIn_4 n x1 x2 x3 m = some (r, m') → va_P D vwCl (wsOf rLay rN cA A m) H → va_S (AW rN A) s.heap H locs → lv_has ls 4 [(0, .ref (A 0)), (1, .int x1), (2, .int x2), (3, .int x3)] → W p l e { frames := 0, cells := 0, slots := 0, locals := 0 } s m0 args below meth c H locs 0 0 (ZR below args s rLay rN D cA A (some (.int r)) m') (F0 m0 4 ls []) := by
  have hx := X.1
  have hb := X.2.1
  have hml := X.2.2.1
  have hown := X.2.2.2.1
  have hts := X.2.2.2.2.1
  have hF := X.2.2.2.2.2.2.2.2.1
  intro n
  induction n with
  | zero =>
    intro x1 x2 x3 m H locs ls h hP hS hl
    exact absurd h (by rewrite [fX12_takenIn_4]; exact fun q => by cases q)
  | succ n ih =>
    intro x1 x2 x3 m H locs ls h hP hS hl
    rewrite [fX12_takenIn_4] at h
    refine lv_iload_n hx hb dX12_takenIn_4 rfl (lv_at hl 3 rfl) ?_
    refine lv_bipush (v := 6) hx hb dX12_takenIn_5 (by decide) ?_
    refine lv_icmp_ge (tgt := 32) hx hb dX12_takenIn_7 (by decide) (fun c_1 => ?_) (fun c_1 => ?_)
    · have h := ifp c_1 h
      refine lv_iload_n hx hb dX12_takenIn_32 rfl (lv_at hl 2 rfl) ?_
      exact r_iret X hP hS dX12_takenIn_33 h
    · have h := ifn c_1 h
      refine lv_iload_n hx hb dX12_takenIn_10 rfl (lv_at hl 2 rfl) ?_
      refine lv_aload_n hx hb dX12_takenIn_11 rfl (lv_at hl 0 rfl) ?_
      refine r_get kc_12 0 X hP (by decide) (L_ref _) (by decide) rfl wt_5_172 dX12_takenIn_12 ?_
      refine lv_bipush (v := 47) hx hb dX12_takenIn_15 (by decide) ?_
      refine lv_iload_n hx hb dX12_takenIn_17 rfl (lv_at hl 3 rfl) ?_
      refine lv_iadd hx hb dX12_takenIn_18 ?_
      obtain ⟨hin_2, h⟩ := gx_some h
      refine r_iald X hP (by decide) (Lr_1 _) hin_2 rfl dX12_takenIn_19 ?_
      refine lv_iload_n hx hb dX12_takenIn_20 rfl (lv_at hl 1 rfl) ?_
      refine lv_ishr hx hb dX12_takenIn_21 ?_
      refine lv_iconst (v := 1) hx hb dX12_takenIn_22 (by decide) ?_
      refine lv_iand hx hb dX12_takenIn_23 ?_
      refine lv_iadd hx hb dX12_takenIn_24 ?_
      obtain ⟨x2_3, ex_4, h⟩ := lt_some h
      refine lv_ren ex_4 ?_
      refine lv_istore_n (lv' := [(2, .int x2_3), (0, .ref (A 0)), (1, .int x1), (3, .int x3)]) hx hb dX12_takenIn_25 rfl hl (by decide) rfl (fun ls hl => ?_)
      obtain ⟨x3_5, ex_6, h⟩ := lt_some h
      refine lv_iinc (v := x3_5) (lv' := [(3, .int x3_5), (2, .int x2_3), (0, .ref (A 0)), (1, .int x1)]) hx hb dX12_takenIn_26 hl (k := 3) rfl (by rw [ex_6]; rfl) (by decide) rfl (fun ls hl => ?_)
      refine lv_goto (tgt := 4) hx hb dX12_takenIn_29 (by decide) ?_
      exact ih x1 x2_3 x3_5 m _ _ _  h hP hS (lv_sub hl [2, 3, 1, 0] rfl)

def fX12_takenIn (a1 : Int32) (m : Mm) : Option (Int32 × Mm) := (fX12_takenIn_4  FL a1 0 0 m)
set_option maxHeartbeats 4000000 in
set_option maxRecDepth 100000 in
theorem tX12_takenIn {l : Launch} {D : va_G} {cA : Nat → ClassId} {A : Nat → Nat} (hI : InjA rN A) {a1 : Int32} {m m' : Mm} {r : Int32} (h : fX12_takenIn a1 m = some (r, m')) : Met0 l yX12_takenIn cX12_takenIn 4 (some .int) { frames := 0, cells := 0, slots := 0, locals := 0 } rLay rN D cA A [.ref (A 0), .int a1] m (some (.int r)) m' := by
  refine met0_of (by decide) (Nat.le_of_ble_eq_true rfl) hI ?_
  intro p e s m0 below meth c ls X hinit hP hS hl
  generalize ([.ref (A 0), .int a1] : List Value).toArray = args at X ⊢
  have hl : lv_has ls 4 [(0, .ref (A 0)), (1, .int a1)] := hl
  have X : CX rLay rN D cA A p s m0 args meth c "BenchTowelsModel" cX12_takenIn 4 (some .int) := X
  have hx := X.1
  have hb := X.2.1
  have hml := X.2.2.1
  have hown := X.2.2.2.1
  have hts := X.2.2.2.2.1
  have hF := X.2.2.2.2.2.2.2.2.1
  rewrite [fX12_takenIn] at h
  refine lv_iconst (v := 0) hx hb dX12_takenIn_0 (by decide) ?_
  refine lv_istore_n (lv' := [(2, .int 0), (0, .ref (A 0)), (1, .int a1)]) hx hb dX12_takenIn_1 rfl hl (by decide) rfl (fun ls hl => ?_)
  refine lv_iconst (v := 0) hx hb dX12_takenIn_2 (by decide) ?_
  refine lv_istore_n (lv' := [(3, .int 0), (2, .int 0), (0, .ref (A 0)), (1, .int a1)]) hx hb dX12_takenIn_3 rfl hl (by decide) rfl (fun ls hl => ?_)
  exact tX12_takenIn_4 hI    X FL a1 0 0 m _ _ _  h hP hS (lv_sub hl [2, 3, 1, 0] rfl)

def fX12_busiest_16  : Nat → Int32 → Int32 → Int32 → Mm → Option (Int32 × Mm)
  | 0, _, _, _, _ => none
  | n + 1, x1, x2, x3, m => (if (16 : Int32) ≤ x3 then (if x1 = 0 then some (x2, m) else bd (fX12_takenIn x2 m) fun r_7 m_8 => some (r_7, m_8)) else bd (fX12_takenIn x3 m) fun r_10 m_11 => bd (fX12_takenIn x2 m_11) fun r_13 m_14 => (if r_10 ≤ r_13 then lt ((x3 : Int32) + 1) fun x3_17 => (fX12_busiest_16 n x1 x2 x3_17 m_14) else lt ((x3 : Int32) + 1) fun x3_19 => (fX12_busiest_16 n x1 x3 x3_19 m_14)))
set_option maxHeartbeats 4000000 in
set_option maxRecDepth 100000 in
theorem tX12_busiest_16 (hI : InjA rN A)  {r : Int32} {m' : Mm} (X : CX rLay rN D cA A p s m0 args meth c "BenchTowelsModel" cX12_busiest 4 (some .int)) : ∀ (n : Nat) (x1 : Int32) (x2 : Int32) (x3 : Int32) (m : Mm) (H : Heap) (locs : List Loc) (ls : Array Slot), fX12_busiest_16 n x1 x2 x3 m = some (r, m') → va_P D vwCl (wsOf rLay rN cA A m) H → va_S (AW rN A) s.heap H locs → lv_has ls 4 [(0, .ref (A 0)), (1, .int x1), (2, .int x2), (3, .int x3)] → W p l e { frames := 1, cells := 0, slots := 0, locals := 25 } s m0 args below meth c H locs 0 0 (ZR below args s rLay rN D cA A (some (.int r)) m') (F0 m0 16 ls []) := by
  have hx := X.1
  have hb := X.2.1
  have hml := X.2.2.1
  have hown := X.2.2.2.1
  have hts := X.2.2.2.2.1
  have hF := X.2.2.2.2.2.2.2.2.1
  intro n
  induction n with
  | zero =>
    intro x1 x2 x3 m H locs ls h hP hS hl
    exact absurd h (by rewrite [fX12_busiest_16]; exact fun q => by cases q)
  | succ n ih =>
    intro x1 x2 x3 m H locs ls h hP hS hl
    rewrite [fX12_busiest_16] at h
    refine lv_iload_n hx hb dX12_busiest_16 rfl (lv_at hl 3 rfl) ?_
    refine lv_bipush (v := 16) hx hb dX12_busiest_17 (by decide) ?_
    refine lv_icmp_ge (tgt := 47) hx hb dX12_busiest_19 (by decide) (fun c_5 => ?_) (fun c_5 => ?_)
    · have h := ifp c_5 h
      refine lv_iload_n hx hb dX12_busiest_47 rfl (lv_at hl 1 rfl) ?_
      refine lv_if_ne (tgt := 55) hx hb dX12_busiest_48 (by decide) (fun c_6 => ?_) (fun c_6 => ?_)
      · have h := ifn c_6 h
        refine lv_aload_n hx hb dX12_busiest_55 rfl (lv_at hl 0 rfl) ?_
        refine lv_iload_n hx hb dX12_busiest_56 rfl (lv_at hl 2 rfl) ?_
        obtain ⟨r_7, m_8, hc_9, h⟩ := bd_some h
        refine c_V (rest := []) X hP hS (tX12_takenIn hI  hc_9) (by decide) (L_ref _) rfl wt_7_80 wt_7_82 ws_4_15 wt_1_13 wt_7_83 ⟨rfl, hy_X12_takenIn⟩ ⟨rfl, rfl⟩ ⟨Nat.le_of_ble_eq_true rfl, Nat.le_of_ble_eq_true rfl⟩ rfl hl.1 rfl (Nat.le_of_ble_eq_true rfl) dX12_busiest_57 rfl (fun H locs hP hS => ?_)
        exact r_iret X hP hS dX12_busiest_60 h
      · have h := ifp c_6 h
        refine lv_iload_n hx hb dX12_busiest_51 rfl (lv_at hl 2 rfl) ?_
        refine lv_goto (tgt := 60) hx hb dX12_busiest_52 (by decide) ?_
        exact r_iret X hP hS dX12_busiest_60 h
    · have h := ifn c_5 h
      refine lv_aload_n hx hb dX12_busiest_22 rfl (lv_at hl 0 rfl) ?_
      refine lv_iload_n hx hb dX12_busiest_23 rfl (lv_at hl 3 rfl) ?_
      obtain ⟨r_10, m_11, hc_12, h⟩ := bd_some h
      refine c_V (rest := []) X hP hS (tX12_takenIn hI  hc_12) (by decide) (L_ref _) rfl wt_7_80 wt_7_82 ws_4_15 wt_1_13 wt_7_83 ⟨rfl, hy_X12_takenIn⟩ ⟨rfl, rfl⟩ ⟨Nat.le_of_ble_eq_true rfl, Nat.le_of_ble_eq_true rfl⟩ rfl hl.1 rfl (Nat.le_of_ble_eq_true rfl) dX12_busiest_24 rfl (fun H locs hP hS => ?_)
      refine lv_aload_n hx hb dX12_busiest_27 rfl (lv_at hl 0 rfl) ?_
      refine lv_iload_n hx hb dX12_busiest_28 rfl (lv_at hl 2 rfl) ?_
      obtain ⟨r_13, m_14, hc_15, h⟩ := bd_some h
      refine c_V (rest := [.int r_10]) X hP hS (tX12_takenIn hI  hc_15) (by decide) (L_ref _) rfl wt_7_80 wt_7_82 ws_4_15 wt_1_13 wt_7_83 ⟨rfl, hy_X12_takenIn⟩ ⟨rfl, rfl⟩ ⟨Nat.le_of_ble_eq_true rfl, Nat.le_of_ble_eq_true rfl⟩ rfl hl.1 rfl (Nat.le_of_ble_eq_true rfl) dX12_busiest_29 rfl (fun H locs hP hS => ?_)
      refine lv_icmp_le (tgt := 39) hx hb dX12_busiest_32 (by decide) (fun c_16 => ?_) (fun c_16 => ?_)
      · have h := ifp c_16 h
        refine lv_iload_n hx hb dX12_busiest_39 rfl (lv_at hl 2 rfl) ?_
        refine lv_istore_n (lv' := [(2, .int x2), (0, .ref (A 0)), (1, .int x1), (3, .int x3)]) hx hb dX12_busiest_40 rfl hl (by decide) rfl (fun ls hl => ?_)
        obtain ⟨x3_17, ex_18, h⟩ := lt_some h
        refine lv_iinc (v := x3_17) (lv' := [(3, .int x3_17), (2, .int x2), (0, .ref (A 0)), (1, .int x1)]) hx hb dX12_busiest_41 hl (k := 3) rfl (by rw [ex_18]; rfl) (by decide) rfl (fun ls hl => ?_)
        refine lv_goto (tgt := 16) hx hb dX12_busiest_44 (by decide) ?_
        exact ih x1 x2 x3_17 m_14 _ _ _  h hP hS (lv_sub hl [2, 3, 1, 0] rfl)
      · have h := ifn c_16 h
        refine lv_iload_n hx hb dX12_busiest_35 rfl (lv_at hl 3 rfl) ?_
        refine lv_goto (tgt := 40) hx hb dX12_busiest_36 (by decide) ?_
        refine lv_istore_n (lv' := [(2, .int x3), (0, .ref (A 0)), (1, .int x1), (3, .int x3)]) hx hb dX12_busiest_40 rfl hl (by decide) rfl (fun ls hl => ?_)
        obtain ⟨x3_19, ex_20, h⟩ := lt_some h
        refine lv_iinc (v := x3_19) (lv' := [(3, .int x3_19), (2, .int x3), (0, .ref (A 0)), (1, .int x1)]) hx hb dX12_busiest_41 hl (k := 3) rfl (by rw [ex_20]; rfl) (by decide) rfl (fun ls hl => ?_)
        refine lv_goto (tgt := 16) hx hb dX12_busiest_44 (by decide) ?_
        exact ih x1 x3 x3_19 m_14 _ _ _  h hP hS (lv_sub hl [2, 3, 1, 0] rfl)

def fX12_busiest (a1 : Int32) (m : Mm) : Option (Int32 × Mm) := bd (fX12_isIn (Int32.toInt64 a1) (0 : Int64) (1 : Int64) m) fun r_1 m_2 => (if r_1 = 0 then some ((-1), m_2) else (fX12_busiest_16  FL a1 0 1 m_2))
set_option maxHeartbeats 4000000 in
set_option maxRecDepth 100000 in
theorem tX12_busiest {l : Launch} {D : va_G} {cA : Nat → ClassId} {A : Nat → Nat} (hI : InjA rN A) {a1 : Int32} {m m' : Mm} {r : Int32} (h : fX12_busiest a1 m = some (r, m')) : Met0 l yX12_busiest cX12_busiest 4 (some .int) { frames := 1, cells := 0, slots := 0, locals := 25 } rLay rN D cA A [.ref (A 0), .int a1] m (some (.int r)) m' := by
  refine met0_of (by decide) (Nat.le_of_ble_eq_true rfl) hI ?_
  intro p e s m0 below meth c ls X hinit hP hS hl
  generalize ([.ref (A 0), .int a1] : List Value).toArray = args at X ⊢
  have hl : lv_has ls 4 [(0, .ref (A 0)), (1, .int a1)] := hl
  have X : CX rLay rN D cA A p s m0 args meth c "BenchTowelsModel" cX12_busiest 4 (some .int) := X
  have hx := X.1
  have hb := X.2.1
  have hml := X.2.2.1
  have hown := X.2.2.2.1
  have hts := X.2.2.2.2.1
  have hF := X.2.2.2.2.2.2.2.2.1
  rewrite [fX12_busiest] at h
  refine lv_iload_n hx hb dX12_busiest_0 rfl (lv_at hl 1 rfl) ?_
  refine lv_i2l hx hb dX12_busiest_1 rfl ?_
  refine lv_lconst (v := 0) hx hb dX12_busiest_2 (by decide) ?_
  refine lv_lconst (v := 1) hx hb dX12_busiest_3 (by decide) ?_
  obtain ⟨r_1, m_2, hc_3, h⟩ := bd_some h
  refine c_S (rest := []) X hP hS (tX12_isIn hI  hc_3) wt_6_55 wt_6_56 wt_1_13 wt_6_57 hy_X12_isIn ⟨rfl, rfl⟩ ⟨Nat.le_of_ble_eq_true rfl, Nat.le_of_ble_eq_true rfl⟩ rfl hl.1 rfl (Nat.le_of_ble_eq_true rfl) dX12_busiest_4 rfl (fun H locs hP hS => ?_)
  refine lv_if_ne (tgt := 12) hx hb dX12_busiest_7 (by decide) (fun c_4 => ?_) (fun c_4 => ?_)
  · have h := ifn c_4 h
    refine lv_iconst (v := 0) hx hb dX12_busiest_12 (by decide) ?_
    refine lv_istore_n (lv' := [(2, .int 0), (0, .ref (A 0)), (1, .int a1)]) hx hb dX12_busiest_13 rfl hl (by decide) rfl (fun ls hl => ?_)
    refine lv_iconst (v := 1) hx hb dX12_busiest_14 (by decide) ?_
    refine lv_istore_n (lv' := [(3, .int 1), (2, .int 0), (0, .ref (A 0)), (1, .int a1)]) hx hb dX12_busiest_15 rfl hl (by decide) rfl (fun ls hl => ?_)
    exact tX12_busiest_16 hI    X FL a1 0 1 m_2 _ _ _  h hP hS (lv_sub hl [2, 3, 1, 0] rfl)
  · have h := ifp c_4 h
    refine lv_iconst (v := (-1)) hx hb dX12_busiest_10 (by decide) ?_
    exact r_iret X hP hS dX12_busiest_11 h

def fX12_plans_82 (rec : Int32 → Int32 → Int32 → Int32 → Int32 → Mm → Option (Int32 × Mm)) (x4 : Int32) (x5 : Int32) (s0 : Int32) (s1 : Int32) (m : Mm) : Option (Int32 × Mm) := lt (up m 0 17 (s1 + s0)) fun m_4 => lt (up m_4 0 21 ((m_4 0 21) ||| x5)) fun m_6 => (if ((m_6 0 19) &&& (x5 ^^^ (-1))) = 0 then (if ((m_6 0 20) : Int32) ≤ x4 then lt (up m_6 0 20 (m_6 0 20)) fun m_12 => some (0, m_12) else lt (up m_6 0 20 x4) fun m_14 => some (0, m_14)) else lt (up m_6 0 20 (m_6 0 20)) fun m_9 => some (0, m_9))
set_option maxHeartbeats 4000000 in
set_option maxRecDepth 100000 in
theorem tX12_plans_82 {Fr Lr : Nat} (hI : InjA rN A)  {rec : Int32 → Int32 → Int32 → Int32 → Int32 → Mm → Option (Int32 × Mm)} (hrec : ∀ (a1 : Int32) (a2 : Int32) (a3 : Int32) (a4 : Int32) (a5 : Int32) (m : Mm) (r : Int32) (m' : Mm), rec a1 a2 a3 a4 a5 m = some (r, m') → Met0 l yX12_plans cX12_plans 8 none { frames := Fr, cells := 0, slots := 0, locals := Lr } rLay rN D cA A [.ref (A 0), .int a1, .int a2, .int a3, .int a4, .int a5] m none m') {r : Int32} {m' : Mm} (X : CX rLay rN D cA A p s m0 args meth c "BenchTowelsModel" cX12_plans 8 none) : ∀ (x4 : Int32) (x5 : Int32) (s0 : Int32) (s1 : Int32) (m : Mm) (H : Heap) (locs : List Loc) (ls : Array Slot), fX12_plans_82 rec x4 x5 s0 s1 m = some (r, m') → va_P D vwCl (wsOf rLay rN cA A m) H → va_S (AW rN A) s.heap H locs → lv_has ls 8 [(0, .ref (A 0)), (4, .int x4), (5, .int x5)] → W p l e { frames := Fr + 5, cells := 0, slots := 0, locals := Lr + 120 } s m0 args below meth c H locs 0 0 (ZR below args s rLay rN D cA A none m') (F0 m0 82 ls [.int s0, .int s1, .ref (A 0)]) := by
  have hx := X.1
  have hb := X.2.1
  have hml := X.2.2.1
  have hown := X.2.2.2.1
  have hts := X.2.2.2.2.1
  have hF := X.2.2.2.2.2.2.2.2.1
  intro x4 x5 s0 s1 m H locs ls h hP hS hl
  rewrite [fX12_plans_82] at h
  refine lv_iadd hx hb dX12_plans_82 ?_
  obtain ⟨m_4, em_5, h⟩ := lt_some h
  refine r_put kc_12 17 X hP hS (by decide) (L_ref _) (L_ref _) (by decide) wt_5_189 rfl (by decide +kernel) (Nat.le_of_ble_eq_true rfl) dX12_plans_83 em_5 (fun H locs hP hS => ?_)
  refine lv_aload_n hx hb dX12_plans_86 rfl (lv_at hl 0 rfl) ?_
  refine lv_dup hx hb dX12_plans_87 rfl ?_
  refine r_get kc_12 21 X hP (by decide) (L_ref _) (by decide) rfl wt_5_193 dX12_plans_88 ?_
  refine lv_iload hx hb dX12_plans_91 (lv_at hl 2 rfl) ?_
  refine lv_ior hx hb dX12_plans_93 ?_
  obtain ⟨m_6, em_7, h⟩ := lt_some h
  refine r_put kc_12 21 X hP hS (by decide) (L_ref _) (L_ref _) (by decide) wt_5_193 rfl (by decide +kernel) (Nat.le_of_ble_eq_true rfl) dX12_plans_94 em_7 (fun H locs hP hS => ?_)
  refine lv_aload_n hx hb dX12_plans_97 rfl (lv_at hl 0 rfl) ?_
  refine lv_aload_n hx hb dX12_plans_98 rfl (lv_at hl 0 rfl) ?_
  refine r_get kc_12 19 X hP (by decide) (L_ref _) (by decide) rfl wt_5_191 dX12_plans_99 ?_
  refine lv_iload hx hb dX12_plans_102 (lv_at hl 2 rfl) ?_
  refine lv_iconst (v := (-1)) hx hb dX12_plans_104 (by decide) ?_
  refine lv_ixor hx hb dX12_plans_105 ?_
  refine lv_iand hx hb dX12_plans_106 ?_
  refine lv_if_ne (tgt := 124) hx hb dX12_plans_107 (by decide) (fun c_8 => ?_) (fun c_8 => ?_)
  · have h := ifn c_8 h
    refine lv_aload_n hx hb dX12_plans_124 rfl (lv_at hl 0 rfl) ?_
    refine r_get kc_12 20 X hP (by decide) (L_ref _) (by decide) rfl wt_5_192 dX12_plans_125 ?_
    obtain ⟨m_9, em_10, h⟩ := lt_some h
    refine r_put kc_12 20 X hP hS (by decide) (L_ref _) (L_ref _) (by decide) wt_5_192 rfl (by decide +kernel) (Nat.le_of_ble_eq_true rfl) dX12_plans_128 em_10 (fun H locs hP hS => ?_)
    exact r_vret X hP hS dX12_plans_131 h
  · have h := ifp c_8 h
    refine lv_iload hx hb dX12_plans_110 (lv_at hl 1 rfl) ?_
    refine lv_aload_n hx hb dX12_plans_112 rfl (lv_at hl 0 rfl) ?_
    refine r_get kc_12 20 X hP (by decide) (L_ref _) (by decide) rfl wt_5_192 dX12_plans_113 ?_
    refine lv_icmp_ge (tgt := 124) hx hb dX12_plans_116 (by decide) (fun c_11 => ?_) (fun c_11 => ?_)
    · have h := ifp c_11 h
      refine lv_aload_n hx hb dX12_plans_124 rfl (lv_at hl 0 rfl) ?_
      refine r_get kc_12 20 X hP (by decide) (L_ref _) (by decide) rfl wt_5_192 dX12_plans_125 ?_
      obtain ⟨m_12, em_13, h⟩ := lt_some h
      refine r_put kc_12 20 X hP hS (by decide) (L_ref _) (L_ref _) (by decide) wt_5_192 rfl (by decide +kernel) (Nat.le_of_ble_eq_true rfl) dX12_plans_128 em_13 (fun H locs hP hS => ?_)
      exact r_vret X hP hS dX12_plans_131 h
    · have h := ifn c_11 h
      refine lv_iload hx hb dX12_plans_119 (lv_at hl 1 rfl) ?_
      refine lv_goto (tgt := 128) hx hb dX12_plans_121 (by decide) ?_
      obtain ⟨m_14, em_15, h⟩ := lt_some h
      refine r_put kc_12 20 X hP hS (by decide) (L_ref _) (L_ref _) (by decide) wt_5_192 rfl (by decide +kernel) (Nat.le_of_ble_eq_true rfl) dX12_plans_128 em_15 (fun H locs hP hS => ?_)
      exact r_vret X hP hS dX12_plans_131 h

def fX12_plans_64 (rec : Int32 → Int32 → Int32 → Int32 → Int32 → Mm → Option (Int32 × Mm)) (x3 : Int32) (x4 : Int32) (x5 : Int32) (m : Mm) : Option (Int32 × Mm) := (if x3 = (m 0 16) then (fX12_plans_82 rec x4 x5 1 (m 0 17) m) else (fX12_plans_82 rec x4 x5 0 (m 0 17) m))
set_option maxHeartbeats 4000000 in
set_option maxRecDepth 100000 in
theorem tX12_plans_64 {Fr Lr : Nat} (hI : InjA rN A)  {rec : Int32 → Int32 → Int32 → Int32 → Int32 → Mm → Option (Int32 × Mm)} (hrec : ∀ (a1 : Int32) (a2 : Int32) (a3 : Int32) (a4 : Int32) (a5 : Int32) (m : Mm) (r : Int32) (m' : Mm), rec a1 a2 a3 a4 a5 m = some (r, m') → Met0 l yX12_plans cX12_plans 8 none { frames := Fr, cells := 0, slots := 0, locals := Lr } rLay rN D cA A [.ref (A 0), .int a1, .int a2, .int a3, .int a4, .int a5] m none m') {r : Int32} {m' : Mm} (X : CX rLay rN D cA A p s m0 args meth c "BenchTowelsModel" cX12_plans 8 none) : ∀ (x3 : Int32) (x4 : Int32) (x5 : Int32) (m : Mm) (H : Heap) (locs : List Loc) (ls : Array Slot), fX12_plans_64 rec x3 x4 x5 m = some (r, m') → va_P D vwCl (wsOf rLay rN cA A m) H → va_S (AW rN A) s.heap H locs → lv_has ls 8 [(0, .ref (A 0)), (3, .int x3), (4, .int x4), (5, .int x5)] → W p l e { frames := Fr + 5, cells := 0, slots := 0, locals := Lr + 120 } s m0 args below meth c H locs 0 0 (ZR below args s rLay rN D cA A none m') (F0 m0 64 ls []) := by
  have hx := X.1
  have hb := X.2.1
  have hml := X.2.2.1
  have hown := X.2.2.2.1
  have hts := X.2.2.2.2.1
  have hF := X.2.2.2.2.2.2.2.2.1
  intro x3 x4 x5 m H locs ls h hP hS hl
  rewrite [fX12_plans_64] at h
  refine lv_aload_n hx hb dX12_plans_64 rfl (lv_at hl 0 rfl) ?_
  refine lv_dup hx hb dX12_plans_65 rfl ?_
  refine r_get kc_12 17 X hP (by decide) (L_ref _) (by decide) rfl wt_5_189 dX12_plans_66 ?_
  refine lv_iload_n hx hb dX12_plans_69 rfl (lv_at hl 1 rfl) ?_
  refine lv_aload_n hx hb dX12_plans_70 rfl (lv_at hl 0 rfl) ?_
  refine r_get kc_12 16 X hP (by decide) (L_ref _) (by decide) rfl wt_5_188 dX12_plans_71 ?_
  refine lv_icmp_ne (tgt := 81) hx hb dX12_plans_74 (by decide) (fun c_3 => ?_) (fun c_3 => ?_)
  · have h := ifn c_3 h
    refine lv_iconst (v := 0) hx hb dX12_plans_81 (by decide) ?_
    exact tX12_plans_82 hI  hrec  X x4 x5 0 (m 0 17) m _ _ _  h hP hS (lv_sub hl [0, 2, 3] rfl)
  · have h := ifp c_3 h
    refine lv_iconst (v := 1) hx hb dX12_plans_77 (by decide) ?_
    refine lv_goto (tgt := 82) hx hb dX12_plans_78 (by decide) ?_
    exact tX12_plans_82 hI  hrec  X x4 x5 1 (m 0 17) m _ _ _  h hP hS (lv_sub hl [0, 2, 3] rfl)

def fX12_plans_38 (rec : Int32 → Int32 → Int32 → Int32 → Int32 → Mm → Option (Int32 × Mm)) : Nat → Int32 → Int32 → Int32 → Int32 → Mm → Option (Int32 × Mm)
  | 0, _, _, _, _, _ => none
  | n + 1, x3, x4, x5, x6, m => (if (4 : Int32) ≤ x6 then fX12_plans_64 rec x3 x4 x5 m else gx x6 4 (lt (up m 7 (ix x6) (m 6 (ix x6))) fun m_24 => lt ((x6 : Int32) + 1) fun x6_26 => (fX12_plans_38 rec n x3 x4 x5 x6_26 m_24)))
set_option maxHeartbeats 4000000 in
set_option maxRecDepth 100000 in
theorem tX12_plans_38 {Fr Lr : Nat} (hI : InjA rN A)  {rec : Int32 → Int32 → Int32 → Int32 → Int32 → Mm → Option (Int32 × Mm)} (hrec : ∀ (a1 : Int32) (a2 : Int32) (a3 : Int32) (a4 : Int32) (a5 : Int32) (m : Mm) (r : Int32) (m' : Mm), rec a1 a2 a3 a4 a5 m = some (r, m') → Met0 l yX12_plans cX12_plans 8 none { frames := Fr, cells := 0, slots := 0, locals := Lr } rLay rN D cA A [.ref (A 0), .int a1, .int a2, .int a3, .int a4, .int a5] m none m') {r : Int32} {m' : Mm} (X : CX rLay rN D cA A p s m0 args meth c "BenchTowelsModel" cX12_plans 8 none) : ∀ (n : Nat) (x3 : Int32) (x4 : Int32) (x5 : Int32) (x6 : Int32) (m : Mm) (H : Heap) (locs : List Loc) (ls : Array Slot), fX12_plans_38 rec n x3 x4 x5 x6 m = some (r, m') → va_P D vwCl (wsOf rLay rN cA A m) H → va_S (AW rN A) s.heap H locs → lv_has ls 8 [(0, .ref (A 0)), (3, .int x3), (4, .int x4), (5, .int x5), (6, .int x6)] → W p l e { frames := Fr + 5, cells := 0, slots := 0, locals := Lr + 120 } s m0 args below meth c H locs 0 0 (ZR below args s rLay rN D cA A none m') (F0 m0 38 ls []) := by
  have hx := X.1
  have hb := X.2.1
  have hml := X.2.2.1
  have hown := X.2.2.2.1
  have hts := X.2.2.2.2.1
  have hF := X.2.2.2.2.2.2.2.2.1
  intro n
  induction n with
  | zero =>
    intro x3 x4 x5 x6 m H locs ls h hP hS hl
    exact absurd h (by rewrite [fX12_plans_38]; exact fun q => by cases q)
  | succ n ih =>
    intro x3 x4 x5 x6 m H locs ls h hP hS hl
    rewrite [fX12_plans_38] at h
    refine lv_iload hx hb dX12_plans_38 (lv_at hl 4 rfl) ?_
    refine lv_iconst (v := 4) hx hb dX12_plans_40 (by decide) ?_
    refine lv_icmp_ge (tgt := 64) hx hb dX12_plans_41 (by decide) (fun c_22 => ?_) (fun c_22 => ?_)
    · have h := ifp c_22 h
      exact tX12_plans_64 hI  hrec  X x3 x4 x5 m _ _ _  h hP hS (lv_sub hl [0, 1, 2, 3] rfl)
    · have h := ifn c_22 h
      refine lv_aload_n hx hb dX12_plans_44 rfl (lv_at hl 0 rfl) ?_
      refine r_get kc_12 15 X hP (by decide) (L_ref _) (by decide) rfl wt_5_187 dX12_plans_45 ?_
      refine lv_iload hx hb dX12_plans_48 (lv_at hl 4 rfl) ?_
      refine lv_aload_n hx hb dX12_plans_50 rfl (lv_at hl 0 rfl) ?_
      refine r_get kc_12 14 X hP (by decide) (L_ref _) (by decide) rfl wt_5_186 dX12_plans_51 ?_
      refine lv_iload hx hb dX12_plans_54 (lv_at hl 4 rfl) ?_
      obtain ⟨hin_23, h⟩ := gx_some h
      refine r_iald X hP (by decide) (Lr_6 _) hin_23 rfl dX12_plans_56 ?_
      obtain ⟨m_24, em_25, h⟩ := lt_some h
      refine r_iast X hP hS (by decide) Lr_7 hin_23 rfl dX12_plans_57 em_25 (fun H locs hP hS => ?_)
      obtain ⟨x6_26, ex_27, h⟩ := lt_some h
      refine lv_iinc (v := x6_26) (lv' := [(6, .int x6_26), (0, .ref (A 0)), (3, .int x3), (4, .int x4), (5, .int x5)]) hx hb dX12_plans_58 hl (k := 4) rfl (by rw [ex_27]; rfl) (by decide) rfl (fun ls hl => ?_)
      refine lv_goto (tgt := 38) hx hb dX12_plans_61 (by decide) ?_
      exact ih x3 x4 x5 x6_26 m_24 _ _ _  h hP hS (lv_sub hl [1, 2, 3, 4, 0] rfl)

def fX12_plans_12 (rec : Int32 → Int32 → Int32 → Int32 → Int32 → Mm → Option (Int32 × Mm)) (x1 : Int32) (x3 : Int32) (x4 : Int32) (x5 : Int32) (m : Mm) : Option (Int32 × Mm) := (if x3 ≤ (m 0 16) then fX12_plans_64 rec x3 x4 x5 m else lt (up m 0 16 x3) fun m_16 => lt (up m_16 0 17 0) fun m_18 => lt (up m_18 0 18 x1) fun m_20 => (fX12_plans_38 rec FL x3 x4 x5 0 m_20))
set_option maxHeartbeats 4000000 in
set_option maxRecDepth 100000 in
theorem tX12_plans_12 {Fr Lr : Nat} (hI : InjA rN A)  {rec : Int32 → Int32 → Int32 → Int32 → Int32 → Mm → Option (Int32 × Mm)} (hrec : ∀ (a1 : Int32) (a2 : Int32) (a3 : Int32) (a4 : Int32) (a5 : Int32) (m : Mm) (r : Int32) (m' : Mm), rec a1 a2 a3 a4 a5 m = some (r, m') → Met0 l yX12_plans cX12_plans 8 none { frames := Fr, cells := 0, slots := 0, locals := Lr } rLay rN D cA A [.ref (A 0), .int a1, .int a2, .int a3, .int a4, .int a5] m none m') {r : Int32} {m' : Mm} (X : CX rLay rN D cA A p s m0 args meth c "BenchTowelsModel" cX12_plans 8 none) : ∀ (x1 : Int32) (x3 : Int32) (x4 : Int32) (x5 : Int32) (m : Mm) (H : Heap) (locs : List Loc) (ls : Array Slot), fX12_plans_12 rec x1 x3 x4 x5 m = some (r, m') → va_P D vwCl (wsOf rLay rN cA A m) H → va_S (AW rN A) s.heap H locs → lv_has ls 8 [(0, .ref (A 0)), (1, .int x1), (3, .int x3), (4, .int x4), (5, .int x5)] → W p l e { frames := Fr + 5, cells := 0, slots := 0, locals := Lr + 120 } s m0 args below meth c H locs 0 0 (ZR below args s rLay rN D cA A none m') (F0 m0 12 ls []) := by
  have hx := X.1
  have hb := X.2.1
  have hml := X.2.2.1
  have hown := X.2.2.2.1
  have hts := X.2.2.2.2.1
  have hF := X.2.2.2.2.2.2.2.2.1
  intro x1 x3 x4 x5 m H locs ls h hP hS hl
  rewrite [fX12_plans_12] at h
  refine lv_iload_n hx hb dX12_plans_12 rfl (lv_at hl 2 rfl) ?_
  refine lv_aload_n hx hb dX12_plans_13 rfl (lv_at hl 0 rfl) ?_
  refine r_get kc_12 16 X hP (by decide) (L_ref _) (by decide) rfl wt_5_188 dX12_plans_14 ?_
  refine lv_icmp_le (tgt := 64) hx hb dX12_plans_17 (by decide) (fun c_2 => ?_) (fun c_2 => ?_)
  · have h := ifp c_2 h
    exact tX12_plans_64 hI  hrec  X x3 x4 x5 m _ _ _  h hP hS (lv_sub hl [0, 2, 3, 4] rfl)
  · have h := ifn c_2 h
    refine lv_aload_n hx hb dX12_plans_20 rfl (lv_at hl 0 rfl) ?_
    refine lv_iload_n hx hb dX12_plans_21 rfl (lv_at hl 2 rfl) ?_
    obtain ⟨m_16, em_17, h⟩ := lt_some h
    refine r_put kc_12 16 X hP hS (by decide) (L_ref _) (L_ref _) (by decide) wt_5_188 rfl (by decide +kernel) (Nat.le_of_ble_eq_true rfl) dX12_plans_22 em_17 (fun H locs hP hS => ?_)
    refine lv_aload_n hx hb dX12_plans_25 rfl (lv_at hl 0 rfl) ?_
    refine lv_iconst (v := 0) hx hb dX12_plans_26 (by decide) ?_
    obtain ⟨m_18, em_19, h⟩ := lt_some h
    refine r_put kc_12 17 X hP hS (by decide) (L_ref _) (L_ref _) (by decide) wt_5_189 rfl (by decide +kernel) (Nat.le_of_ble_eq_true rfl) dX12_plans_27 em_19 (fun H locs hP hS => ?_)
    refine lv_aload_n hx hb dX12_plans_30 rfl (lv_at hl 0 rfl) ?_
    refine lv_iload_n hx hb dX12_plans_31 rfl (lv_at hl 1 rfl) ?_
    obtain ⟨m_20, em_21, h⟩ := lt_some h
    refine r_put kc_12 18 X hP hS (by decide) (L_ref _) (L_ref _) (by decide) wt_5_190 rfl (by decide +kernel) (Nat.le_of_ble_eq_true rfl) dX12_plans_32 em_21 (fun H locs hP hS => ?_)
    refine lv_iconst (v := 0) hx hb dX12_plans_35 (by decide) ?_
    refine lv_istore (lv' := [(6, .int 0), (0, .ref (A 0)), (1, .int x1), (3, .int x3), (4, .int x4), (5, .int x5)]) hx hb dX12_plans_36 hl (by decide) rfl (fun ls hl => ?_)
    exact tX12_plans_38 hI  hrec  X FL x3 x4 x5 0 m_20 _ _ _  h hP hS (lv_sub hl [1, 3, 4, 5, 0] rfl)

def fX12_plans_211 (rec : Int32 → Int32 → Int32 → Int32 → Int32 → Mm → Option (Int32 × Mm)) (K140 : Int32 → Int32 → Int32 → Int32 → Int32 → Int32 → Mm → Option (Int32 × Mm)) (x1 : Int32) (x2 : Int32) (x3 : Int32) (x4 : Int32) (x5 : Int32) (x6 : Int32) (s0 : Int32) (s1 : Int32) (s2 : Int32) (s3 : Int32) (s4 : Int32) (m : Mm) : Option (Int32 × Mm) := bd (rec s4 s3 s2 s1 s0 m) fun r_44 m_45 => bd (fX12_laysBack x1 m_45) fun r_47 m_48 => lt ((x6 : Int32) + 1) fun x6_50 => (K140 x1 x2 x3 x4 x5 x6_50 m_48)
set_option maxHeartbeats 4000000 in
set_option maxRecDepth 100000 in
theorem tX12_plans_211 {Fr Lr : Nat} (hI : InjA rN A)  {rec : Int32 → Int32 → Int32 → Int32 → Int32 → Mm → Option (Int32 × Mm)} (hrec : ∀ (a1 : Int32) (a2 : Int32) (a3 : Int32) (a4 : Int32) (a5 : Int32) (m : Mm) (r : Int32) (m' : Mm), rec a1 a2 a3 a4 a5 m = some (r, m') → Met0 l yX12_plans cX12_plans 8 none { frames := Fr, cells := 0, slots := 0, locals := Lr } rLay rN D cA A [.ref (A 0), .int a1, .int a2, .int a3, .int a4, .int a5] m none m') {r : Int32} {m' : Mm} {K140 : Int32 → Int32 → Int32 → Int32 → Int32 → Int32 → Mm → Option (Int32 × Mm)} (hK140 : ∀ (x1 : Int32) (x2 : Int32) (x3 : Int32) (x4 : Int32) (x5 : Int32) (x6 : Int32) (m : Mm) (H : Heap) (locs : List Loc) (ls : Array Slot), K140 x1 x2 x3 x4 x5 x6 m = some (r, m') → va_P D vwCl (wsOf rLay rN cA A m) H → va_S (AW rN A) s.heap H locs → lv_has ls 8 [(0, .ref (A 0)), (1, .int x1), (2, .int x2), (3, .int x3), (4, .int x4), (5, .int x5), (6, .int x6)] → W p l e { frames := Fr + 5, cells := 0, slots := 0, locals := Lr + 120 } s m0 args below meth c H locs 0 0 (ZR below args s rLay rN D cA A none m') (F0 m0 140 ls [])) (X : CX rLay rN D cA A p s m0 args meth c "BenchTowelsModel" cX12_plans 8 none) : ∀ (x1 : Int32) (x2 : Int32) (x3 : Int32) (x4 : Int32) (x5 : Int32) (x6 : Int32) (s0 : Int32) (s1 : Int32) (s2 : Int32) (s3 : Int32) (s4 : Int32) (m : Mm) (H : Heap) (locs : List Loc) (ls : Array Slot), fX12_plans_211 rec K140 x1 x2 x3 x4 x5 x6 s0 s1 s2 s3 s4 m = some (r, m') → va_P D vwCl (wsOf rLay rN cA A m) H → va_S (AW rN A) s.heap H locs → lv_has ls 8 [(0, .ref (A 0)), (1, .int x1), (2, .int x2), (3, .int x3), (4, .int x4), (5, .int x5), (6, .int x6)] → W p l e { frames := Fr + 5, cells := 0, slots := 0, locals := Lr + 120 } s m0 args below meth c H locs 0 0 (ZR below args s rLay rN D cA A none m') (F0 m0 211 ls [.int s0, .int s1, .int s2, .int s3, .int s4, .ref (A 0)]) := by
  have hx := X.1
  have hb := X.2.1
  have hml := X.2.2.1
  have hown := X.2.2.2.1
  have hts := X.2.2.2.2.1
  have hF := X.2.2.2.2.2.2.2.2.1
  intro x1 x2 x3 x4 x5 x6 s0 s1 s2 s3 s4 m H locs ls h hP hS hl
  rewrite [fX12_plans_211] at h
  obtain ⟨r_44, m_45, hc_46, h⟩ := bd_some h
  refine c_V (rest := []) X hP hS (hrec s4 s3 s2 s1 s0 _ _ _ hc_46) (by decide) (L_ref _) rfl wt_7_95 wt_7_97 ws_5_1 wt_1_13 wt_7_98 ⟨rfl, hy_X12_plans⟩ ⟨rfl, rfl⟩ ⟨by dsimp only; omega, by dsimp only; omega⟩ rfl hl.1 rfl (Nat.le_of_ble_eq_true rfl) dX12_plans_211 rfl (fun H locs hP hS => ?_)
  refine lv_aload_n hx hb dX12_plans_214 rfl (lv_at hl 0 rfl) ?_
  refine lv_iload_n hx hb dX12_plans_215 rfl (lv_at hl 1 rfl) ?_
  obtain ⟨r_47, m_48, hc_49, h⟩ := bd_some h
  refine c_V (rest := []) X hP hS (tX12_laysBack hI  hc_49) (by decide) (L_ref _) rfl wt_7_32 wt_7_34 ws_4_10 wt_1_13 wt_7_35 ⟨rfl, hy_X12_laysBack⟩ ⟨rfl, rfl⟩ ⟨by dsimp only; omega, by dsimp only; omega⟩ rfl hl.1 rfl (Nat.le_of_ble_eq_true rfl) dX12_plans_216 rfl (fun H locs hP hS => ?_)
  obtain ⟨x6_50, ex_51, h⟩ := lt_some h
  refine lv_iinc (v := x6_50) (lv' := [(6, .int x6_50), (0, .ref (A 0)), (1, .int x1), (2, .int x2), (3, .int x3), (4, .int x4), (5, .int x5)]) hx hb dX12_plans_219 hl (k := 6) rfl (by rw [ex_51]; rfl) (by decide) rfl (fun ls hl => ?_)
  refine lv_goto (tgt := 140) hx hb dX12_plans_222 (by decide) ?_
  exact hK140 x1 x2 x3 x4 x5 x6_50 m_48 _ _ _ h hP hS (lv_sub hl [1, 2, 3, 4, 5, 6, 0] rfl)

def fX12_plans_190 (rec : Int32 → Int32 → Int32 → Int32 → Int32 → Mm → Option (Int32 × Mm)) (K140 : Int32 → Int32 → Int32 → Int32 → Int32 → Int32 → Mm → Option (Int32 × Mm)) (x1 : Int32) (x2 : Int32) (x3 : Int32) (x4 : Int32) (x5 : Int32) (x6 : Int32) (s0 : Int32) (s1 : Int32) (s2 : Int32) (s3 : Int32) (m : Mm) : Option (Int32 × Mm) := (if (0 : Int32) ≤ (m 0 13) then (fX12_plans_211 rec K140 x1 x2 x3 x4 x5 x6 (x5 ||| ((1 : Int32) <<< ((m 0 13) &&& 31))) s0 s1 s2 s3 m) else (fX12_plans_211 rec K140 x1 x2 x3 x4 x5 x6 x5 s0 s1 s2 s3 m))
set_option maxHeartbeats 4000000 in
set_option maxRecDepth 100000 in
theorem tX12_plans_190 {Fr Lr : Nat} (hI : InjA rN A)  {rec : Int32 → Int32 → Int32 → Int32 → Int32 → Mm → Option (Int32 × Mm)} (hrec : ∀ (a1 : Int32) (a2 : Int32) (a3 : Int32) (a4 : Int32) (a5 : Int32) (m : Mm) (r : Int32) (m' : Mm), rec a1 a2 a3 a4 a5 m = some (r, m') → Met0 l yX12_plans cX12_plans 8 none { frames := Fr, cells := 0, slots := 0, locals := Lr } rLay rN D cA A [.ref (A 0), .int a1, .int a2, .int a3, .int a4, .int a5] m none m') {r : Int32} {m' : Mm} {K140 : Int32 → Int32 → Int32 → Int32 → Int32 → Int32 → Mm → Option (Int32 × Mm)} (hK140 : ∀ (x1 : Int32) (x2 : Int32) (x3 : Int32) (x4 : Int32) (x5 : Int32) (x6 : Int32) (m : Mm) (H : Heap) (locs : List Loc) (ls : Array Slot), K140 x1 x2 x3 x4 x5 x6 m = some (r, m') → va_P D vwCl (wsOf rLay rN cA A m) H → va_S (AW rN A) s.heap H locs → lv_has ls 8 [(0, .ref (A 0)), (1, .int x1), (2, .int x2), (3, .int x3), (4, .int x4), (5, .int x5), (6, .int x6)] → W p l e { frames := Fr + 5, cells := 0, slots := 0, locals := Lr + 120 } s m0 args below meth c H locs 0 0 (ZR below args s rLay rN D cA A none m') (F0 m0 140 ls [])) (X : CX rLay rN D cA A p s m0 args meth c "BenchTowelsModel" cX12_plans 8 none) : ∀ (x1 : Int32) (x2 : Int32) (x3 : Int32) (x4 : Int32) (x5 : Int32) (x6 : Int32) (s0 : Int32) (s1 : Int32) (s2 : Int32) (s3 : Int32) (m : Mm) (H : Heap) (locs : List Loc) (ls : Array Slot), fX12_plans_190 rec K140 x1 x2 x3 x4 x5 x6 s0 s1 s2 s3 m = some (r, m') → va_P D vwCl (wsOf rLay rN cA A m) H → va_S (AW rN A) s.heap H locs → lv_has ls 8 [(0, .ref (A 0)), (1, .int x1), (2, .int x2), (3, .int x3), (4, .int x4), (5, .int x5), (6, .int x6)] → W p l e { frames := Fr + 5, cells := 0, slots := 0, locals := Lr + 120 } s m0 args below meth c H locs 0 0 (ZR below args s rLay rN D cA A none m') (F0 m0 190 ls [.int s0, .int s1, .int s2, .int s3, .ref (A 0)]) := by
  have hx := X.1
  have hb := X.2.1
  have hml := X.2.2.1
  have hown := X.2.2.2.1
  have hts := X.2.2.2.2.1
  have hF := X.2.2.2.2.2.2.2.2.1
  intro x1 x2 x3 x4 x5 x6 s0 s1 s2 s3 m H locs ls h hP hS hl
  rewrite [fX12_plans_190] at h
  refine lv_aload_n hx hb dX12_plans_190 rfl (lv_at hl 0 rfl) ?_
  refine r_get kc_12 13 X hP (by decide) (L_ref _) (by decide) rfl wt_5_185 dX12_plans_191 ?_
  refine lv_if_ge (tgt := 202) hx hb dX12_plans_194 (by decide) (fun c_43 => ?_) (fun c_43 => ?_)
  · have h := ifp c_43 h
    refine lv_iload hx hb dX12_plans_202 (lv_at hl 5 rfl) ?_
    refine lv_iconst (v := 1) hx hb dX12_plans_204 (by decide) ?_
    refine lv_aload_n hx hb dX12_plans_205 rfl (lv_at hl 0 rfl) ?_
    refine r_get kc_12 13 X hP (by decide) (L_ref _) (by decide) rfl wt_5_185 dX12_plans_206 ?_
    refine lv_ishl hx hb dX12_plans_209 ?_
    refine lv_ior hx hb dX12_plans_210 ?_
    exact tX12_plans_211 hI  hrec hK140 X x1 x2 x3 x4 x5 x6 (x5 ||| ((1 : Int32) <<< ((m 0 13) &&& 31))) s0 s1 s2 s3 m _ _ _  h hP hS (lv_sub hl [0, 1, 2, 3, 4, 5, 6] rfl)
  · have h := ifn c_43 h
    refine lv_iload hx hb dX12_plans_197 (lv_at hl 5 rfl) ?_
    refine lv_goto (tgt := 211) hx hb dX12_plans_199 (by decide) ?_
    exact tX12_plans_211 hI  hrec hK140 X x1 x2 x3 x4 x5 x6 x5 s0 s1 s2 s3 m _ _ _  h hP hS (lv_sub hl [0, 1, 2, 3, 4, 5, 6] rfl)

def fX12_plans_140 (rec : Int32 → Int32 → Int32 → Int32 → Int32 → Mm → Option (Int32 × Mm)) : Nat → Int32 → Int32 → Int32 → Int32 → Int32 → Int32 → Mm → Option (Int32 × Mm)
  | 0, _, _, _, _, _, _, _ => none
  | n + 1, x1, x2, x3, x4, x5, x6, m => (if ((m 1 0) : Int32) < x6 then some (0, m) else gx x1 4 (lt (up m 6 (ix x1) x6) fun m_37 => bd (fX12_goesWith x6 m_37) fun r_39 m_40 => (if x6 = 0 then (fX12_plans_190 rec (fun x1 x2 x3 x4 x5 x6 m => fX12_plans_140 rec n x1 x2 x3 x4 x5 x6 m) x1 x2 x3 x4 x5 x6 x4 (x3 + r_39) x2 (x1 + 1) m_40) else (fX12_plans_190 rec (fun x1 x2 x3 x4 x5 x6 m => fX12_plans_140 rec n x1 x2 x3 x4 x5 x6 m) x1 x2 x3 x4 x5 x6 (x4 + 1) (x3 + r_39) x2 (x1 + 1) m_40))))
set_option maxHeartbeats 4000000 in
set_option maxRecDepth 100000 in
theorem tX12_plans_140 {Fr Lr : Nat} (hI : InjA rN A)  {rec : Int32 → Int32 → Int32 → Int32 → Int32 → Mm → Option (Int32 × Mm)} (hrec : ∀ (a1 : Int32) (a2 : Int32) (a3 : Int32) (a4 : Int32) (a5 : Int32) (m : Mm) (r : Int32) (m' : Mm), rec a1 a2 a3 a4 a5 m = some (r, m') → Met0 l yX12_plans cX12_plans 8 none { frames := Fr, cells := 0, slots := 0, locals := Lr } rLay rN D cA A [.ref (A 0), .int a1, .int a2, .int a3, .int a4, .int a5] m none m') {r : Int32} {m' : Mm} (X : CX rLay rN D cA A p s m0 args meth c "BenchTowelsModel" cX12_plans 8 none) : ∀ (n : Nat) (x1 : Int32) (x2 : Int32) (x3 : Int32) (x4 : Int32) (x5 : Int32) (x6 : Int32) (m : Mm) (H : Heap) (locs : List Loc) (ls : Array Slot), fX12_plans_140 rec n x1 x2 x3 x4 x5 x6 m = some (r, m') → va_P D vwCl (wsOf rLay rN cA A m) H → va_S (AW rN A) s.heap H locs → lv_has ls 8 [(0, .ref (A 0)), (1, .int x1), (2, .int x2), (3, .int x3), (4, .int x4), (5, .int x5), (6, .int x6)] → W p l e { frames := Fr + 5, cells := 0, slots := 0, locals := Lr + 120 } s m0 args below meth c H locs 0 0 (ZR below args s rLay rN D cA A none m') (F0 m0 140 ls []) := by
  have hx := X.1
  have hb := X.2.1
  have hml := X.2.2.1
  have hown := X.2.2.2.1
  have hts := X.2.2.2.2.1
  have hF := X.2.2.2.2.2.2.2.2.1
  intro n
  induction n with
  | zero =>
    intro x1 x2 x3 x4 x5 x6 m H locs ls h hP hS hl
    exact absurd h (by rewrite [fX12_plans_140]; exact fun q => by cases q)
  | succ n ih =>
    intro x1 x2 x3 x4 x5 x6 m H locs ls h hP hS hl
    rewrite [fX12_plans_140] at h
    refine lv_iload hx hb dX12_plans_140 (lv_at hl 6 rfl) ?_
    refine lv_aload_n hx hb dX12_plans_142 rfl (lv_at hl 0 rfl) ?_
    refine r_get kc_12 0 X hP (by decide) (L_ref _) (by decide) rfl wt_5_172 dX12_plans_143 ?_
    refine lv_iconst (v := 0) hx hb dX12_plans_146 (by decide) ?_
    refine r_iald X hP (by decide) (Lr_1 _) (vpc (by decide)) ixc_0 dX12_plans_147 ?_
    refine lv_icmp_gt (tgt := 225) hx hb dX12_plans_148 (by decide) (fun c_35 => ?_) (fun c_35 => ?_)
    · have h := ifp c_35 h
      exact r_vret X hP hS dX12_plans_225 h
    · have h := ifn c_35 h
      refine lv_aload_n hx hb dX12_plans_151 rfl (lv_at hl 0 rfl) ?_
      refine r_get kc_12 14 X hP (by decide) (L_ref _) (by decide) rfl wt_5_186 dX12_plans_152 ?_
      refine lv_iload_n hx hb dX12_plans_155 rfl (lv_at hl 1 rfl) ?_
      refine lv_iload hx hb dX12_plans_156 (lv_at hl 6 rfl) ?_
      obtain ⟨hin_36, h⟩ := gx_some h
      obtain ⟨m_37, em_38, h⟩ := lt_some h
      refine r_iast X hP hS (by decide) Lr_6 hin_36 rfl dX12_plans_158 em_38 (fun H locs hP hS => ?_)
      refine lv_aload_n hx hb dX12_plans_159 rfl (lv_at hl 0 rfl) ?_
      refine lv_iload hx hb dX12_plans_160 (lv_at hl 6 rfl) ?_
      obtain ⟨r_39, m_40, hc_41, h⟩ := bd_some h
      refine c_V (rest := []) X hP hS (tX12_goesWith hI  hc_41) (by decide) (L_ref _) rfl wt_7_6 wt_7_8 ws_4_6 wt_1_13 wt_7_9 ⟨rfl, hy_X12_goesWith⟩ ⟨rfl, rfl⟩ ⟨by dsimp only; omega, by dsimp only; omega⟩ rfl hl.1 rfl (Nat.le_of_ble_eq_true rfl) dX12_plans_162 rfl (fun H locs hP hS => ?_)
      refine lv_istore (lv' := [(7, .int r_39), (0, .ref (A 0)), (1, .int x1), (2, .int x2), (3, .int x3), (4, .int x4), (5, .int x5), (6, .int x6)]) hx hb dX12_plans_165 hl (by decide) rfl (fun ls hl => ?_)
      refine lv_aload_n hx hb dX12_plans_167 rfl (lv_at hl 1 rfl) ?_
      refine lv_iload_n hx hb dX12_plans_168 rfl (lv_at hl 2 rfl) ?_
      refine lv_iconst (v := 1) hx hb dX12_plans_169 (by decide) ?_
      refine lv_iadd hx hb dX12_plans_170 ?_
      refine lv_iload_n hx hb dX12_plans_171 rfl (lv_at hl 3 rfl) ?_
      refine lv_iload_n hx hb dX12_plans_172 rfl (lv_at hl 4 rfl) ?_
      refine lv_iload hx hb dX12_plans_173 (lv_at hl 0 rfl) ?_
      refine lv_iadd hx hb dX12_plans_175 ?_
      refine lv_iload hx hb dX12_plans_176 (lv_at hl 7 rfl) ?_
      refine lv_if_ne (tgt := 186) hx hb dX12_plans_178 (by decide) (fun c_42 => ?_) (fun c_42 => ?_)
      · have h := ifn c_42 h
        refine lv_iload hx hb dX12_plans_186 (lv_at hl 5 rfl) ?_
        refine lv_iconst (v := 1) hx hb dX12_plans_188 (by decide) ?_
        refine lv_iadd hx hb dX12_plans_189 ?_
        exact tX12_plans_190 hI  hrec (fun x1 x2 x3 x4 x5 x6 m H locs ls h hP hS hl => ih x1 x2 x3 x4 x5 x6 m H locs ls  h hP hS hl) X x1 x2 x3 x4 x5 x6 (x4 + 1) (x3 + r_39) x2 (x1 + 1) m_40 _ _ _  h hP hS (lv_sub hl [1, 2, 3, 4, 5, 6, 7] rfl)
      · have h := ifp c_42 h
        refine lv_iload hx hb dX12_plans_181 (lv_at hl 5 rfl) ?_
        refine lv_goto (tgt := 190) hx hb dX12_plans_183 (by decide) ?_
        exact tX12_plans_190 hI  hrec (fun x1 x2 x3 x4 x5 x6 m H locs ls h hP hS hl => ih x1 x2 x3 x4 x5 x6 m H locs ls  h hP hS hl) X x1 x2 x3 x4 x5 x6 x4 (x3 + r_39) x2 (x1 + 1) m_40 _ _ _  h hP hS (lv_sub hl [1, 2, 3, 4, 5, 6, 7] rfl)

def fX12_plans (rec : Int32 → Int32 → Int32 → Int32 → Int32 → Mm → Option (Int32 × Mm)) (a1 : Int32) (a2 : Int32) (a3 : Int32) (a4 : Int32) (a5 : Int32) (m : Mm) : Option (Int32 × Mm) := (if a1 = a2 then fX12_plans_12 rec a1 a3 a4 a5 m else bd (fX12_isOver m) fun r_28 m_29 => (if r_28 = 0 then bd (fX12_laysAside a1 m_29) fun r_32 m_33 => (fX12_plans_140 rec FL a1 a2 a3 a4 a5 0 m_33) else fX12_plans_12 rec a1 a3 a4 a5 m_29))
set_option maxHeartbeats 4000000 in
set_option maxRecDepth 100000 in
theorem tX12_plans {l : Launch} {D : va_G} {cA : Nat → ClassId} {A : Nat → Nat} {Fr Lr : Nat} (hI : InjA rN A) {rec : Int32 → Int32 → Int32 → Int32 → Int32 → Mm → Option (Int32 × Mm)} (hrec : ∀ (a1 : Int32) (a2 : Int32) (a3 : Int32) (a4 : Int32) (a5 : Int32) (m : Mm) (r : Int32) (m' : Mm), rec a1 a2 a3 a4 a5 m = some (r, m') → Met0 l yX12_plans cX12_plans 8 none { frames := Fr, cells := 0, slots := 0, locals := Lr } rLay rN D cA A [.ref (A 0), .int a1, .int a2, .int a3, .int a4, .int a5] m none m') {a1 : Int32} {a2 : Int32} {a3 : Int32} {a4 : Int32} {a5 : Int32} {m m' : Mm} {r : Int32} (h : fX12_plans rec a1 a2 a3 a4 a5 m = some (r, m')) : Met0 l yX12_plans cX12_plans 8 none { frames := Fr + 5, cells := 0, slots := 0, locals := Lr + 120 } rLay rN D cA A [.ref (A 0), .int a1, .int a2, .int a3, .int a4, .int a5] m none m' := by
  refine met0_of (by decide) (Nat.le_of_ble_eq_true rfl) hI ?_
  intro p e s m0 below meth c ls X hinit hP hS hl
  generalize ([.ref (A 0), .int a1, .int a2, .int a3, .int a4, .int a5] : List Value).toArray = args at X ⊢
  have hl : lv_has ls 8 [(0, .ref (A 0)), (1, .int a1), (2, .int a2), (3, .int a3), (4, .int a4), (5, .int a5)] := hl
  have X : CX rLay rN D cA A p s m0 args meth c "BenchTowelsModel" cX12_plans 8 none := X
  have hx := X.1
  have hb := X.2.1
  have hml := X.2.2.1
  have hown := X.2.2.2.1
  have hts := X.2.2.2.2.1
  have hF := X.2.2.2.2.2.2.2.2.1
  rewrite [fX12_plans] at h
  refine lv_iload_n hx hb dX12_plans_0 rfl (lv_at hl 1 rfl) ?_
  refine lv_iload_n hx hb dX12_plans_1 rfl (lv_at hl 2 rfl) ?_
  refine lv_icmp_eq (tgt := 12) hx hb dX12_plans_2 (by decide) (fun c_1 => ?_) (fun c_1 => ?_)
  · have h := ifp c_1 h
    exact tX12_plans_12 hI  hrec  X a1 a3 a4 a5 m _ _ _  h hP hS (lv_sub hl [0, 1, 3, 4, 5] rfl)
  · have h := ifn c_1 h
    refine lv_aload_n hx hb dX12_plans_5 rfl (lv_at hl 0 rfl) ?_
    obtain ⟨r_28, m_29, hc_30, h⟩ := bd_some h
    refine c_V (rest := []) X hP hS (tX12_isOver hI  hc_30) (by decide) (L_ref _) rfl wt_6_147 wt_6_149 ws_3_2 wt_1_13 wt_6_150 ⟨rfl, hy_X12_isOver⟩ ⟨rfl, rfl⟩ ⟨by dsimp only; omega, by dsimp only; omega⟩ rfl hl.1 rfl (Nat.le_of_ble_eq_true rfl) dX12_plans_6 rfl (fun H locs hP hS => ?_)
    refine lv_if_eq (tgt := 132) hx hb dX12_plans_9 (by decide) (fun c_31 => ?_) (fun c_31 => ?_)
    · have h := ifp c_31 h
      refine lv_aload_n hx hb dX12_plans_132 rfl (lv_at hl 0 rfl) ?_
      refine lv_iload_n hx hb dX12_plans_133 rfl (lv_at hl 1 rfl) ?_
      obtain ⟨r_32, m_33, hc_34, h⟩ := bd_some h
      refine c_V (rest := []) X hP hS (tX12_laysAside hI  hc_34) (by decide) (L_ref _) rfl wt_7_28 wt_7_30 ws_4_9 wt_1_13 wt_7_31 ⟨rfl, hy_X12_laysAside⟩ ⟨rfl, rfl⟩ ⟨by dsimp only; omega, by dsimp only; omega⟩ rfl hl.1 rfl (Nat.le_of_ble_eq_true rfl) dX12_plans_134 rfl (fun H locs hP hS => ?_)
      refine lv_iconst (v := 0) hx hb dX12_plans_137 (by decide) ?_
      refine lv_istore (lv' := [(6, .int 0), (0, .ref (A 0)), (1, .int a1), (2, .int a2), (3, .int a3), (4, .int a4), (5, .int a5)]) hx hb dX12_plans_138 hl (by decide) rfl (fun ls hl => ?_)
      exact tX12_plans_140 hI  hrec  X FL a1 a2 a3 a4 a5 0 m_33 _ _ _  h hP hS (lv_sub hl [1, 2, 3, 4, 5, 6, 0] rfl)
    · have h := ifn c_31 h
      exact tX12_plans_12 hI  hrec  X a1 a3 a4 a5 m_29 _ _ _  h hP hS (lv_sub hl [0, 1, 3, 4, 5] rfl)
def rX12_plans : Nat → Int32 → Int32 → Int32 → Int32 → Int32 → Mm → Option (Int32 × Mm)
  | 0, _, _, _, _, _, _ => none
  | n + 1, a1, a2, a3, a4, a5, m => fX12_plans (rX12_plans n) a1 a2 a3 a4 a5 m
theorem tr0X12_plans {l : Launch} {D : va_G} {cA : Nat → ClassId} {A : Nat → Nat} (hI : InjA rN A) : ∀ (n : Nat) (a1 : Int32) (a2 : Int32) (a3 : Int32) (a4 : Int32) (a5 : Int32) (m : Mm) (r : Int32) (m' : Mm), rX12_plans n a1 a2 a3 a4 a5 m = some (r, m') → Met0 l yX12_plans cX12_plans 8 none { frames := 5 * n, cells := 0, slots := 0, locals := 120 * n } rLay rN D cA A [.ref (A 0), .int a1, .int a2, .int a3, .int a4, .int a5] m none m' := by
  intro n
  induction n with
  | zero =>
    intro a1 a2 a3 a4 a5 m r m' h
    exact absurd h (by rewrite [rX12_plans]; exact fun q => by cases q)
  | succ n ih =>
    intro a1 a2 a3 a4 a5 m r m' h
    rewrite [rX12_plans] at h
    exact tX12_plans (Fr := 5 * n) (Lr := 120 * n) hI  ih h
theorem trX12_plans {l : Launch} {D : va_G} {cA : Nat → ClassId} {A : Nat → Nat} (hI : InjA rN A) (n : Nat) (a1 : Int32) (a2 : Int32) (a3 : Int32) (a4 : Int32) (a5 : Int32) (m : Mm) (r : Int32) (m' : Mm) (h : rX12_plans n a1 a2 a3 a4 a5 m = some (r, m')) : Met0 l yX12_plans cX12_plans 8 none { frames := 5 * n, cells := 0, slots := 0, locals := 120 * n } rLay rN D cA A [.ref (A 0), .int a1, .int a2, .int a3, .int a4, .int a5] m none m' := tr0X12_plans hI n a1 a2 a3 a4 a5 m r m' h

def fX12_findsPlans (a1 : Int32) (a2 : Int32) (m : Mm) : Option (Int32 × Mm) := lt (up m 0 16 (-1)) fun m_1 => lt (up m_1 0 17 0) fun m_3 => lt (up m_3 0 18 0) fun m_5 => lt (up m_5 0 19 a2) fun m_7 => lt (up m_7 0 20 9) fun m_9 => lt (up m_9 0 21 0) fun m_11 => bd (rX12_plans 6 (0 : Int32) a1 (0 : Int32) (0 : Int32) (0 : Int32) m_11) fun r_13 m_14 => some (0, m_14)
set_option maxHeartbeats 4000000 in
set_option maxRecDepth 100000 in
theorem tX12_findsPlans {l : Launch} {D : va_G} {cA : Nat → ClassId} {A : Nat → Nat} (hI : InjA rN A) {a1 : Int32} {a2 : Int32} {m m' : Mm} {r : Int32} (h : fX12_findsPlans a1 a2 m = some (r, m')) : Met0 l yX12_findsPlans cX12_findsPlans 3 none { frames := 31, cells := 0, slots := 0, locals := 747 } rLay rN D cA A [.ref (A 0), .int a1, .int a2] m none m' := by
  refine met0_of (by decide) (Nat.le_of_ble_eq_true rfl) hI ?_
  intro p e s m0 below meth c ls X hinit hP hS hl
  generalize ([.ref (A 0), .int a1, .int a2] : List Value).toArray = args at X ⊢
  have hl : lv_has ls 3 [(0, .ref (A 0)), (1, .int a1), (2, .int a2)] := hl
  have X : CX rLay rN D cA A p s m0 args meth c "BenchTowelsModel" cX12_findsPlans 3 none := X
  have hx := X.1
  have hb := X.2.1
  have hml := X.2.2.1
  have hown := X.2.2.2.1
  have hts := X.2.2.2.2.1
  have hF := X.2.2.2.2.2.2.2.2.1
  rewrite [fX12_findsPlans] at h
  refine lv_aload_n hx hb dX12_findsPlans_0 rfl (lv_at hl 0 rfl) ?_
  refine lv_iconst (v := (-1)) hx hb dX12_findsPlans_1 (by decide) ?_
  obtain ⟨m_1, em_2, h⟩ := lt_some h
  refine r_put kc_12 16 X hP hS (by decide) (L_ref _) (L_ref _) (by decide) wt_5_188 rfl (by decide +kernel) (Nat.le_of_ble_eq_true rfl) dX12_findsPlans_2 em_2 (fun H locs hP hS => ?_)
  refine lv_aload_n hx hb dX12_findsPlans_5 rfl (lv_at hl 0 rfl) ?_
  refine lv_iconst (v := 0) hx hb dX12_findsPlans_6 (by decide) ?_
  obtain ⟨m_3, em_4, h⟩ := lt_some h
  refine r_put kc_12 17 X hP hS (by decide) (L_ref _) (L_ref _) (by decide) wt_5_189 rfl (by decide +kernel) (Nat.le_of_ble_eq_true rfl) dX12_findsPlans_7 em_4 (fun H locs hP hS => ?_)
  refine lv_aload_n hx hb dX12_findsPlans_10 rfl (lv_at hl 0 rfl) ?_
  refine lv_iconst (v := 0) hx hb dX12_findsPlans_11 (by decide) ?_
  obtain ⟨m_5, em_6, h⟩ := lt_some h
  refine r_put kc_12 18 X hP hS (by decide) (L_ref _) (L_ref _) (by decide) wt_5_190 rfl (by decide +kernel) (Nat.le_of_ble_eq_true rfl) dX12_findsPlans_12 em_6 (fun H locs hP hS => ?_)
  refine lv_aload_n hx hb dX12_findsPlans_15 rfl (lv_at hl 0 rfl) ?_
  refine lv_iload_n hx hb dX12_findsPlans_16 rfl (lv_at hl 2 rfl) ?_
  obtain ⟨m_7, em_8, h⟩ := lt_some h
  refine r_put kc_12 19 X hP hS (by decide) (L_ref _) (L_ref _) (by decide) wt_5_191 rfl (by decide +kernel) (Nat.le_of_ble_eq_true rfl) dX12_findsPlans_17 em_8 (fun H locs hP hS => ?_)
  refine lv_aload_n hx hb dX12_findsPlans_20 rfl (lv_at hl 0 rfl) ?_
  refine lv_bipush (v := 9) hx hb dX12_findsPlans_21 (by decide) ?_
  obtain ⟨m_9, em_10, h⟩ := lt_some h
  refine r_put kc_12 20 X hP hS (by decide) (L_ref _) (L_ref _) (by decide) wt_5_192 rfl (by decide +kernel) (Nat.le_of_ble_eq_true rfl) dX12_findsPlans_23 em_10 (fun H locs hP hS => ?_)
  refine lv_aload_n hx hb dX12_findsPlans_26 rfl (lv_at hl 0 rfl) ?_
  refine lv_iconst (v := 0) hx hb dX12_findsPlans_27 (by decide) ?_
  obtain ⟨m_11, em_12, h⟩ := lt_some h
  refine r_put kc_12 21 X hP hS (by decide) (L_ref _) (L_ref _) (by decide) wt_5_193 rfl (by decide +kernel) (Nat.le_of_ble_eq_true rfl) dX12_findsPlans_28 em_12 (fun H locs hP hS => ?_)
  refine lv_aload_n hx hb dX12_findsPlans_31 rfl (lv_at hl 0 rfl) ?_
  refine lv_iconst (v := 0) hx hb dX12_findsPlans_32 (by decide) ?_
  refine lv_iload_n hx hb dX12_findsPlans_33 rfl (lv_at hl 1 rfl) ?_
  refine lv_iconst (v := 0) hx hb dX12_findsPlans_34 (by decide) ?_
  refine lv_iconst (v := 0) hx hb dX12_findsPlans_35 (by decide) ?_
  refine lv_iconst (v := 0) hx hb dX12_findsPlans_36 (by decide) ?_
  obtain ⟨r_13, m_14, hc_15, h⟩ := bd_some h
  refine c_V (rest := []) X hP hS (trX12_plans hI  6 (0 : Int32) a1 (0 : Int32) (0 : Int32) (0 : Int32) _ _ _ hc_15) (by decide) (L_ref _) rfl wt_7_95 wt_7_97 ws_5_1 wt_1_13 wt_7_98 ⟨rfl, hy_X12_plans⟩ ⟨rfl, rfl⟩ ⟨Nat.le_of_ble_eq_true rfl, Nat.le_of_ble_eq_true rfl⟩ rfl hl.1 rfl (Nat.le_of_ble_eq_true rfl) dX12_findsPlans_37 rfl (fun H locs hP hS => ?_)
  exact r_vret X hP hS dX12_findsPlans_40 h

def fX12_isLong (a1 : Int32) (m : Mm) : Option (Int32 × Mm) := bd (fX12_isIn (Int32.toInt64 a1) (0 : Int64) (4 : Int64) m) fun r_1 m_2 => gb r_1 (some (r_1, m_2))
set_option maxHeartbeats 4000000 in
set_option maxRecDepth 100000 in
theorem tX12_isLong {l : Launch} {D : va_G} {cA : Nat → ClassId} {A : Nat → Nat} (hI : InjA rN A) {a1 : Int32} {m m' : Mm} {r : Int32} (h : fX12_isLong a1 m = some (r, m')) : Met0 l yX12_isLong cX12_isLong 1 (some .boolean) { frames := 1, cells := 0, slots := 0, locals := 25 } rLay rN D cA A [.int a1] m (some (.int r)) m' := by
  refine met0_of (by decide) (Nat.le_of_ble_eq_true rfl) hI ?_
  intro p e s m0 below meth c ls X hinit hP hS hl
  generalize ([.int a1] : List Value).toArray = args at X ⊢
  have hl : lv_has ls 1 [(0, .int a1)] := hl
  have X : CX rLay rN D cA A p s m0 args meth c "BenchTowelsModel" cX12_isLong 1 (some .boolean) := X
  have hx := X.1
  have hb := X.2.1
  have hml := X.2.2.1
  have hown := X.2.2.2.1
  have hts := X.2.2.2.2.1
  have hF := X.2.2.2.2.2.2.2.2.1
  rewrite [fX12_isLong] at h
  refine lv_iload_n hx hb dX12_isLong_0 rfl (lv_at hl 0 rfl) ?_
  refine lv_i2l hx hb dX12_isLong_1 rfl ?_
  refine lv_lconst (v := 0) hx hb dX12_isLong_2 (by decide) ?_
  refine lv_ldc2 (v := 4) hx hb hown (hts _ wt_6_112) dX12_isLong_3 ?_
  obtain ⟨r_1, m_2, hc_3, h⟩ := bd_some h
  refine c_S (rest := []) X hP hS (tX12_isIn hI  hc_3) wt_6_55 wt_6_56 wt_1_13 wt_6_57 hy_X12_isIn ⟨rfl, rfl⟩ ⟨Nat.le_of_ble_eq_true rfl, Nat.le_of_ble_eq_true rfl⟩ rfl hl.1 rfl (Nat.le_of_ble_eq_true rfl) dX12_isLong_6 rfl (fun H locs hP hS => ?_)
  obtain ⟨hz_4, h⟩ := gb_some h
  exact r_zret X hz_4 hP hS dX12_isLong_9 h

def fX12_best (a1 : Int32) (m : Mm) : Option (Int32 × Mm) := bd (fX12_isLong a1 m) fun r_1 m_2 => (if r_1 = 0 then some ((-1), m_2) else bd (fX12_findsPlans a1 (0 : Int32) m_2) fun r_5 m_6 => some ((m_6 0 16), m_6))
set_option maxHeartbeats 4000000 in
set_option maxRecDepth 100000 in
theorem tX12_best {l : Launch} {D : va_G} {cA : Nat → ClassId} {A : Nat → Nat} (hI : InjA rN A) {a1 : Int32} {m m' : Mm} {r : Int32} (h : fX12_best a1 m = some (r, m')) : Met0 l yX12_best cX12_best 2 (some .int) { frames := 32, cells := 0, slots := 0, locals := 769 } rLay rN D cA A [.ref (A 0), .int a1] m (some (.int r)) m' := by
  refine met0_of (by decide) (Nat.le_of_ble_eq_true rfl) hI ?_
  intro p e s m0 below meth c ls X hinit hP hS hl
  generalize ([.ref (A 0), .int a1] : List Value).toArray = args at X ⊢
  have hl : lv_has ls 2 [(0, .ref (A 0)), (1, .int a1)] := hl
  have X : CX rLay rN D cA A p s m0 args meth c "BenchTowelsModel" cX12_best 2 (some .int) := X
  have hx := X.1
  have hb := X.2.1
  have hml := X.2.2.1
  have hown := X.2.2.2.1
  have hts := X.2.2.2.2.1
  have hF := X.2.2.2.2.2.2.2.2.1
  rewrite [fX12_best] at h
  refine lv_iload_n hx hb dX12_best_0 rfl (lv_at hl 1 rfl) ?_
  obtain ⟨r_1, m_2, hc_3, h⟩ := bd_some h
  refine c_S (rest := []) X hP hS (tX12_isLong hI  hc_3) wt_7_88 wt_7_89 wt_1_13 wt_7_90 hy_X12_isLong ⟨rfl, rfl⟩ ⟨Nat.le_of_ble_eq_true rfl, Nat.le_of_ble_eq_true rfl⟩ rfl hl.1 rfl (Nat.le_of_ble_eq_true rfl) dX12_best_1 rfl (fun H locs hP hS => ?_)
  refine lv_if_ne (tgt := 9) hx hb dX12_best_4 (by decide) (fun c_4 => ?_) (fun c_4 => ?_)
  · have h := ifn c_4 h
    refine lv_aload_n hx hb dX12_best_9 rfl (lv_at hl 0 rfl) ?_
    refine lv_iload_n hx hb dX12_best_10 rfl (lv_at hl 1 rfl) ?_
    refine lv_iconst (v := 0) hx hb dX12_best_11 (by decide) ?_
    obtain ⟨r_5, m_6, hc_7, h⟩ := bd_some h
    refine c_V (rest := []) X hP hS (tX12_findsPlans hI  hc_7) (by decide) (L_ref _) rfl wt_7_91 wt_7_93 ws_5_0 wt_1_13 wt_7_94 ⟨rfl, hy_X12_findsPlans⟩ ⟨rfl, rfl⟩ ⟨Nat.le_of_ble_eq_true rfl, Nat.le_of_ble_eq_true rfl⟩ rfl hl.1 rfl (Nat.le_of_ble_eq_true rfl) dX12_best_12 rfl (fun H locs hP hS => ?_)
    refine lv_aload_n hx hb dX12_best_15 rfl (lv_at hl 0 rfl) ?_
    refine r_get kc_12 16 X hP (by decide) (L_ref _) (by decide) rfl wt_5_188 dX12_best_16 ?_
    exact r_iret X hP hS dX12_best_19 h
  · have h := ifp c_4 h
    refine lv_iconst (v := (-1)) hx hb dX12_best_7 (by decide) ?_
    exact r_iret X hP hS dX12_best_8 h

def fX12_ith (a1 : Int32) (a2 : Int32) (m : Mm) : Option (Int32 × Mm) := bd (fX12_isLong a1 m) fun r_1 m_2 => (if r_1 = 0 then some ((-1), m_2) else bd (fX12_isIn (Int32.toInt64 a2) (0 : Int64) (3 : Int64) m_2) fun r_5 m_6 => (if r_5 = 0 then some ((-1), m_6) else bd (fX12_findsPlans a1 (0 : Int32) m_6) fun r_9 m_10 => (if ((m_10 0 18) : Int32) ≤ a2 then some ((-3), m_10) else gx a2 4 (some ((m_10 7 (ix a2)), m_10)))))
set_option maxHeartbeats 4000000 in
set_option maxRecDepth 100000 in
theorem tX12_ith {l : Launch} {D : va_G} {cA : Nat → ClassId} {A : Nat → Nat} (hI : InjA rN A) {a1 : Int32} {a2 : Int32} {m m' : Mm} {r : Int32} (h : fX12_ith a1 a2 m = some (r, m')) : Met0 l yX12_ith cX12_ith 3 (some .int) { frames := 32, cells := 0, slots := 0, locals := 769 } rLay rN D cA A [.ref (A 0), .int a1, .int a2] m (some (.int r)) m' := by
  refine met0_of (by decide) (Nat.le_of_ble_eq_true rfl) hI ?_
  intro p e s m0 below meth c ls X hinit hP hS hl
  generalize ([.ref (A 0), .int a1, .int a2] : List Value).toArray = args at X ⊢
  have hl : lv_has ls 3 [(0, .ref (A 0)), (1, .int a1), (2, .int a2)] := hl
  have X : CX rLay rN D cA A p s m0 args meth c "BenchTowelsModel" cX12_ith 3 (some .int) := X
  have hx := X.1
  have hb := X.2.1
  have hml := X.2.2.1
  have hown := X.2.2.2.1
  have hts := X.2.2.2.2.1
  have hF := X.2.2.2.2.2.2.2.2.1
  rewrite [fX12_ith] at h
  refine lv_iload_n hx hb dX12_ith_0 rfl (lv_at hl 1 rfl) ?_
  obtain ⟨r_1, m_2, hc_3, h⟩ := bd_some h
  refine c_S (rest := []) X hP hS (tX12_isLong hI  hc_3) wt_7_88 wt_7_89 wt_1_13 wt_7_90 hy_X12_isLong ⟨rfl, rfl⟩ ⟨Nat.le_of_ble_eq_true rfl, Nat.le_of_ble_eq_true rfl⟩ rfl hl.1 rfl (Nat.le_of_ble_eq_true rfl) dX12_ith_1 rfl (fun H locs hP hS => ?_)
  refine lv_if_eq (tgt := 19) hx hb dX12_ith_4 (by decide) (fun c_4 => ?_) (fun c_4 => ?_)
  · have h := ifp c_4 h
    refine lv_iconst (v := (-1)) hx hb dX12_ith_19 (by decide) ?_
    exact r_iret X hP hS dX12_ith_20 h
  · have h := ifn c_4 h
    refine lv_iload_n hx hb dX12_ith_7 rfl (lv_at hl 2 rfl) ?_
    refine lv_i2l hx hb dX12_ith_8 rfl ?_
    refine lv_lconst (v := 0) hx hb dX12_ith_9 (by decide) ?_
    refine lv_ldc2 (v := 3) hx hb hown (hts _ wt_7_103) dX12_ith_10 ?_
    obtain ⟨r_5, m_6, hc_7, h⟩ := bd_some h
    refine c_S (rest := []) X hP hS (tX12_isIn hI  hc_7) wt_6_55 wt_6_56 wt_1_13 wt_6_57 hy_X12_isIn ⟨rfl, rfl⟩ ⟨Nat.le_of_ble_eq_true rfl, Nat.le_of_ble_eq_true rfl⟩ rfl hl.1 rfl (Nat.le_of_ble_eq_true rfl) dX12_ith_13 rfl (fun H locs hP hS => ?_)
    refine lv_if_ne (tgt := 21) hx hb dX12_ith_16 (by decide) (fun c_8 => ?_) (fun c_8 => ?_)
    · have h := ifn c_8 h
      refine lv_aload_n hx hb dX12_ith_21 rfl (lv_at hl 0 rfl) ?_
      refine lv_iload_n hx hb dX12_ith_22 rfl (lv_at hl 1 rfl) ?_
      refine lv_iconst (v := 0) hx hb dX12_ith_23 (by decide) ?_
      obtain ⟨r_9, m_10, hc_11, h⟩ := bd_some h
      refine c_V (rest := []) X hP hS (tX12_findsPlans hI  hc_11) (by decide) (L_ref _) rfl wt_7_91 wt_7_93 ws_5_0 wt_1_13 wt_7_94 ⟨rfl, hy_X12_findsPlans⟩ ⟨rfl, rfl⟩ ⟨Nat.le_of_ble_eq_true rfl, Nat.le_of_ble_eq_true rfl⟩ rfl hl.1 rfl (Nat.le_of_ble_eq_true rfl) dX12_ith_24 rfl (fun H locs hP hS => ?_)
      refine lv_iload_n hx hb dX12_ith_27 rfl (lv_at hl 2 rfl) ?_
      refine lv_aload_n hx hb dX12_ith_28 rfl (lv_at hl 0 rfl) ?_
      refine r_get kc_12 18 X hP (by decide) (L_ref _) (by decide) rfl wt_5_190 dX12_ith_29 ?_
      refine lv_icmp_ge (tgt := 44) hx hb dX12_ith_32 (by decide) (fun c_12 => ?_) (fun c_12 => ?_)
      · have h := ifp c_12 h
        refine lv_bipush (v := (-3)) hx hb dX12_ith_44 (by decide) ?_
        exact r_iret X hP hS dX12_ith_46 h
      · have h := ifn c_12 h
        refine lv_aload_n hx hb dX12_ith_35 rfl (lv_at hl 0 rfl) ?_
        refine r_get kc_12 15 X hP (by decide) (L_ref _) (by decide) rfl wt_5_187 dX12_ith_36 ?_
        refine lv_iload_n hx hb dX12_ith_39 rfl (lv_at hl 2 rfl) ?_
        obtain ⟨hin_13, h⟩ := gx_some h
        refine r_iald X hP (by decide) (Lr_7 _) hin_13 rfl dX12_ith_40 ?_
        refine lv_goto (tgt := 46) hx hb dX12_ith_41 (by decide) ?_
        exact r_iret X hP hS dX12_ith_46 h
    · have h := ifp c_8 h
      refine lv_iconst (v := (-1)) hx hb dX12_ith_19 (by decide) ?_
      exact r_iret X hP hS dX12_ith_20 h

def fX12_ways (a1 : Int32) (m : Mm) : Option (Int32 × Mm) := bd (fX12_isLong a1 m) fun r_1 m_2 => (if r_1 = 0 then some ((-1), m_2) else bd (fX12_findsPlans a1 (0 : Int32) m_2) fun r_5 m_6 => some ((m_6 0 17), m_6))
set_option maxHeartbeats 4000000 in
set_option maxRecDepth 100000 in
theorem tX12_ways {l : Launch} {D : va_G} {cA : Nat → ClassId} {A : Nat → Nat} (hI : InjA rN A) {a1 : Int32} {m m' : Mm} {r : Int32} (h : fX12_ways a1 m = some (r, m')) : Met0 l yX12_ways cX12_ways 2 (some .int) { frames := 32, cells := 0, slots := 0, locals := 769 } rLay rN D cA A [.ref (A 0), .int a1] m (some (.int r)) m' := by
  refine met0_of (by decide) (Nat.le_of_ble_eq_true rfl) hI ?_
  intro p e s m0 below meth c ls X hinit hP hS hl
  generalize ([.ref (A 0), .int a1] : List Value).toArray = args at X ⊢
  have hl : lv_has ls 2 [(0, .ref (A 0)), (1, .int a1)] := hl
  have X : CX rLay rN D cA A p s m0 args meth c "BenchTowelsModel" cX12_ways 2 (some .int) := X
  have hx := X.1
  have hb := X.2.1
  have hml := X.2.2.1
  have hown := X.2.2.2.1
  have hts := X.2.2.2.2.1
  have hF := X.2.2.2.2.2.2.2.2.1
  rewrite [fX12_ways] at h
  refine lv_iload_n hx hb dX12_ways_0 rfl (lv_at hl 1 rfl) ?_
  obtain ⟨r_1, m_2, hc_3, h⟩ := bd_some h
  refine c_S (rest := []) X hP hS (tX12_isLong hI  hc_3) wt_7_88 wt_7_89 wt_1_13 wt_7_90 hy_X12_isLong ⟨rfl, rfl⟩ ⟨Nat.le_of_ble_eq_true rfl, Nat.le_of_ble_eq_true rfl⟩ rfl hl.1 rfl (Nat.le_of_ble_eq_true rfl) dX12_ways_1 rfl (fun H locs hP hS => ?_)
  refine lv_if_ne (tgt := 9) hx hb dX12_ways_4 (by decide) (fun c_4 => ?_) (fun c_4 => ?_)
  · have h := ifn c_4 h
    refine lv_aload_n hx hb dX12_ways_9 rfl (lv_at hl 0 rfl) ?_
    refine lv_iload_n hx hb dX12_ways_10 rfl (lv_at hl 1 rfl) ?_
    refine lv_iconst (v := 0) hx hb dX12_ways_11 (by decide) ?_
    obtain ⟨r_5, m_6, hc_7, h⟩ := bd_some h
    refine c_V (rest := []) X hP hS (tX12_findsPlans hI  hc_7) (by decide) (L_ref _) rfl wt_7_91 wt_7_93 ws_5_0 wt_1_13 wt_7_94 ⟨rfl, hy_X12_findsPlans⟩ ⟨rfl, rfl⟩ ⟨Nat.le_of_ble_eq_true rfl, Nat.le_of_ble_eq_true rfl⟩ rfl hl.1 rfl (Nat.le_of_ble_eq_true rfl) dX12_ways_12 rfl (fun H locs hP hS => ?_)
    refine lv_aload_n hx hb dX12_ways_15 rfl (lv_at hl 0 rfl) ?_
    refine r_get kc_12 17 X hP (by decide) (L_ref _) (by decide) rfl wt_5_189 dX12_ways_16 ?_
    exact r_iret X hP hS dX12_ways_19 h
  · have h := ifp c_4 h
    refine lv_iconst (v := (-1)) hx hb dX12_ways_7 (by decide) ?_
    exact r_iret X hP hS dX12_ways_8 h

def fX12_train (a1 : Int32) (a2 : Int32) (m : Mm) : Option (Int32 × Mm) := bd (fX12_isLong a1 m) fun r_1 m_2 => (if r_1 = 0 then some ((-1), m_2) else bd (fX12_isSet a2 m_2) fun r_5 m_6 => (if r_5 = 0 then some ((-1), m_6) else bd (fX12_findsPlans a1 a2 m_6) fun r_9 m_10 => (if (9 : Int32) ≤ (m_10 0 20) then some ((-3), m_10) else some ((m_10 0 20), m_10))))
set_option maxHeartbeats 4000000 in
set_option maxRecDepth 100000 in
theorem tX12_train {l : Launch} {D : va_G} {cA : Nat → ClassId} {A : Nat → Nat} (hI : InjA rN A) {a1 : Int32} {a2 : Int32} {m m' : Mm} {r : Int32} (h : fX12_train a1 a2 m = some (r, m')) : Met0 l yX12_train cX12_train 3 (some .int) { frames := 32, cells := 0, slots := 0, locals := 769 } rLay rN D cA A [.ref (A 0), .int a1, .int a2] m (some (.int r)) m' := by
  refine met0_of (by decide) (Nat.le_of_ble_eq_true rfl) hI ?_
  intro p e s m0 below meth c ls X hinit hP hS hl
  generalize ([.ref (A 0), .int a1, .int a2] : List Value).toArray = args at X ⊢
  have hl : lv_has ls 3 [(0, .ref (A 0)), (1, .int a1), (2, .int a2)] := hl
  have X : CX rLay rN D cA A p s m0 args meth c "BenchTowelsModel" cX12_train 3 (some .int) := X
  have hx := X.1
  have hb := X.2.1
  have hml := X.2.2.1
  have hown := X.2.2.2.1
  have hts := X.2.2.2.2.1
  have hF := X.2.2.2.2.2.2.2.2.1
  rewrite [fX12_train] at h
  refine lv_iload_n hx hb dX12_train_0 rfl (lv_at hl 1 rfl) ?_
  obtain ⟨r_1, m_2, hc_3, h⟩ := bd_some h
  refine c_S (rest := []) X hP hS (tX12_isLong hI  hc_3) wt_7_88 wt_7_89 wt_1_13 wt_7_90 hy_X12_isLong ⟨rfl, rfl⟩ ⟨Nat.le_of_ble_eq_true rfl, Nat.le_of_ble_eq_true rfl⟩ rfl hl.1 rfl (Nat.le_of_ble_eq_true rfl) dX12_train_1 rfl (fun H locs hP hS => ?_)
  refine lv_if_eq (tgt := 15) hx hb dX12_train_4 (by decide) (fun c_4 => ?_) (fun c_4 => ?_)
  · have h := ifp c_4 h
    refine lv_iconst (v := (-1)) hx hb dX12_train_15 (by decide) ?_
    exact r_iret X hP hS dX12_train_16 h
  · have h := ifn c_4 h
    refine lv_aload_n hx hb dX12_train_7 rfl (lv_at hl 0 rfl) ?_
    refine lv_iload_n hx hb dX12_train_8 rfl (lv_at hl 2 rfl) ?_
    obtain ⟨r_5, m_6, hc_7, h⟩ := bd_some h
    refine c_V (rest := []) X hP hS (tX12_isSet hI  hc_7) (by decide) (L_ref _) rfl wt_7_56 wt_7_58 ws_4_12 wt_1_13 wt_7_59 ⟨rfl, hy_X12_isSet⟩ ⟨rfl, rfl⟩ ⟨Nat.le_of_ble_eq_true rfl, Nat.le_of_ble_eq_true rfl⟩ rfl hl.1 rfl (Nat.le_of_ble_eq_true rfl) dX12_train_9 rfl (fun H locs hP hS => ?_)
    refine lv_if_ne (tgt := 17) hx hb dX12_train_12 (by decide) (fun c_8 => ?_) (fun c_8 => ?_)
    · have h := ifn c_8 h
      refine lv_aload_n hx hb dX12_train_17 rfl (lv_at hl 0 rfl) ?_
      refine lv_iload_n hx hb dX12_train_18 rfl (lv_at hl 1 rfl) ?_
      refine lv_iload_n hx hb dX12_train_19 rfl (lv_at hl 2 rfl) ?_
      obtain ⟨r_9, m_10, hc_11, h⟩ := bd_some h
      refine c_V (rest := []) X hP hS (tX12_findsPlans hI  hc_11) (by decide) (L_ref _) rfl wt_7_91 wt_7_93 ws_5_0 wt_1_13 wt_7_94 ⟨rfl, hy_X12_findsPlans⟩ ⟨rfl, rfl⟩ ⟨Nat.le_of_ble_eq_true rfl, Nat.le_of_ble_eq_true rfl⟩ rfl hl.1 rfl (Nat.le_of_ble_eq_true rfl) dX12_train_20 rfl (fun H locs hP hS => ?_)
      refine lv_aload_n hx hb dX12_train_23 rfl (lv_at hl 0 rfl) ?_
      refine r_get kc_12 20 X hP (by decide) (L_ref _) (by decide) rfl wt_5_192 dX12_train_24 ?_
      refine lv_bipush (v := 9) hx hb dX12_train_27 (by decide) ?_
      refine lv_icmp_ge (tgt := 39) hx hb dX12_train_29 (by decide) (fun c_12 => ?_) (fun c_12 => ?_)
      · have h := ifp c_12 h
        refine lv_bipush (v := (-3)) hx hb dX12_train_39 (by decide) ?_
        exact r_iret X hP hS dX12_train_41 h
      · have h := ifn c_12 h
        refine lv_aload_n hx hb dX12_train_32 rfl (lv_at hl 0 rfl) ?_
        refine r_get kc_12 20 X hP (by decide) (L_ref _) (by decide) rfl wt_5_192 dX12_train_33 ?_
        refine lv_goto (tgt := 41) hx hb dX12_train_36 (by decide) ?_
        exact r_iret X hP hS dX12_train_41 h
    · have h := ifp c_8 h
      refine lv_iconst (v := (-1)) hx hb dX12_train_15 (by decide) ?_
      exact r_iret X hP hS dX12_train_16 h

def fX12_bars_25  : Nat → Int32 → Int32 → Mm → Option (Int32 × Mm)
  | 0, _, _, _ => none
  | n + 1, x2, x3, m => (if ((m 1 0) : Int32) ≤ x3 then some ((-3), m) else (if (((x2 &&& ((m 0 21) ^^^ (-1))) >>> (x3 &&& 31)) &&& 1) = 1 then some (x3, m) else lt ((x3 : Int32) + 1) fun x3_14 => (fX12_bars_25 n x2 x3_14 m)))
set_option maxHeartbeats 4000000 in
set_option maxRecDepth 100000 in
theorem tX12_bars_25 (hI : InjA rN A)  {r : Int32} {m' : Mm} (X : CX rLay rN D cA A p s m0 args meth c "BenchTowelsModel" cX12_bars 4 (some .int)) : ∀ (n : Nat) (x2 : Int32) (x3 : Int32) (m : Mm) (H : Heap) (locs : List Loc) (ls : Array Slot), fX12_bars_25 n x2 x3 m = some (r, m') → va_P D vwCl (wsOf rLay rN cA A m) H → va_S (AW rN A) s.heap H locs → lv_has ls 4 [(0, .ref (A 0)), (2, .int x2), (3, .int x3)] → W p l e { frames := 32, cells := 0, slots := 0, locals := 769 } s m0 args below meth c H locs 0 0 (ZR below args s rLay rN D cA A (some (.int r)) m') (F0 m0 25 ls []) := by
  have hx := X.1
  have hb := X.2.1
  have hml := X.2.2.1
  have hown := X.2.2.2.1
  have hts := X.2.2.2.2.1
  have hF := X.2.2.2.2.2.2.2.2.1
  intro n
  induction n with
  | zero =>
    intro x2 x3 m H locs ls h hP hS hl
    exact absurd h (by rewrite [fX12_bars_25]; exact fun q => by cases q)
  | succ n ih =>
    intro x2 x3 m H locs ls h hP hS hl
    rewrite [fX12_bars_25] at h
    refine lv_iload_n hx hb dX12_bars_25 rfl (lv_at hl 2 rfl) ?_
    refine lv_aload_n hx hb dX12_bars_26 rfl (lv_at hl 0 rfl) ?_
    refine r_get kc_12 0 X hP (by decide) (L_ref _) (by decide) rfl wt_5_172 dX12_bars_27 ?_
    refine lv_iconst (v := 0) hx hb dX12_bars_30 (by decide) ?_
    refine r_iald X hP (by decide) (Lr_1 _) (vpc (by decide)) ixc_0 dX12_bars_31 ?_
    refine lv_icmp_ge (tgt := 59) hx hb dX12_bars_32 (by decide) (fun c_12 => ?_) (fun c_12 => ?_)
    · have h := ifp c_12 h
      refine lv_bipush (v := (-3)) hx hb dX12_bars_59 (by decide) ?_
      exact r_iret X hP hS dX12_bars_61 h
    · have h := ifn c_12 h
      refine lv_iload_n hx hb dX12_bars_35 rfl (lv_at hl 1 rfl) ?_
      refine lv_aload_n hx hb dX12_bars_36 rfl (lv_at hl 0 rfl) ?_
      refine r_get kc_12 21 X hP (by decide) (L_ref _) (by decide) rfl wt_5_193 dX12_bars_37 ?_
      refine lv_iconst (v := (-1)) hx hb dX12_bars_40 (by decide) ?_
      refine lv_ixor hx hb dX12_bars_41 ?_
      refine lv_iand hx hb dX12_bars_42 ?_
      refine lv_iload_n hx hb dX12_bars_43 rfl (lv_at hl 2 rfl) ?_
      refine lv_ishr hx hb dX12_bars_44 ?_
      refine lv_iconst (v := 1) hx hb dX12_bars_45 (by decide) ?_
      refine lv_iand hx hb dX12_bars_46 ?_
      refine lv_iconst (v := 1) hx hb dX12_bars_47 (by decide) ?_
      refine lv_icmp_ne (tgt := 53) hx hb dX12_bars_48 (by decide) (fun c_13 => ?_) (fun c_13 => ?_)
      · have h := ifn c_13 h
        obtain ⟨x3_14, ex_15, h⟩ := lt_some h
        refine lv_iinc (v := x3_14) (lv' := [(3, .int x3_14), (0, .ref (A 0)), (2, .int x2)]) hx hb dX12_bars_53 hl (k := 2) rfl (by rw [ex_15]; rfl) (by decide) rfl (fun ls hl => ?_)
        refine lv_goto (tgt := 25) hx hb dX12_bars_56 (by decide) ?_
        exact ih x2 x3_14 m _ _ _  h hP hS (lv_sub hl [1, 2, 0] rfl)
      · have h := ifp c_13 h
        refine lv_iload_n hx hb dX12_bars_51 rfl (lv_at hl 2 rfl) ?_
        exact r_iret X hP hS dX12_bars_52 h

def fX12_bars (a1 : Int32) (a2 : Int32) (m : Mm) : Option (Int32 × Mm) := bd (fX12_isLong a1 m) fun r_1 m_2 => (if r_1 = 0 then some ((-1), m_2) else bd (fX12_isSet a2 m_2) fun r_5 m_6 => (if r_5 = 0 then some ((-1), m_6) else bd (fX12_findsPlans a1 a2 m_6) fun r_9 m_10 => (fX12_bars_25  FL a2 0 m_10)))
set_option maxHeartbeats 4000000 in
set_option maxRecDepth 100000 in
theorem tX12_bars {l : Launch} {D : va_G} {cA : Nat → ClassId} {A : Nat → Nat} (hI : InjA rN A) {a1 : Int32} {a2 : Int32} {m m' : Mm} {r : Int32} (h : fX12_bars a1 a2 m = some (r, m')) : Met0 l yX12_bars cX12_bars 4 (some .int) { frames := 32, cells := 0, slots := 0, locals := 769 } rLay rN D cA A [.ref (A 0), .int a1, .int a2] m (some (.int r)) m' := by
  refine met0_of (by decide) (Nat.le_of_ble_eq_true rfl) hI ?_
  intro p e s m0 below meth c ls X hinit hP hS hl
  generalize ([.ref (A 0), .int a1, .int a2] : List Value).toArray = args at X ⊢
  have hl : lv_has ls 4 [(0, .ref (A 0)), (1, .int a1), (2, .int a2)] := hl
  have X : CX rLay rN D cA A p s m0 args meth c "BenchTowelsModel" cX12_bars 4 (some .int) := X
  have hx := X.1
  have hb := X.2.1
  have hml := X.2.2.1
  have hown := X.2.2.2.1
  have hts := X.2.2.2.2.1
  have hF := X.2.2.2.2.2.2.2.2.1
  rewrite [fX12_bars] at h
  refine lv_iload_n hx hb dX12_bars_0 rfl (lv_at hl 1 rfl) ?_
  obtain ⟨r_1, m_2, hc_3, h⟩ := bd_some h
  refine c_S (rest := []) X hP hS (tX12_isLong hI  hc_3) wt_7_88 wt_7_89 wt_1_13 wt_7_90 hy_X12_isLong ⟨rfl, rfl⟩ ⟨Nat.le_of_ble_eq_true rfl, Nat.le_of_ble_eq_true rfl⟩ rfl hl.1 rfl (Nat.le_of_ble_eq_true rfl) dX12_bars_1 rfl (fun H locs hP hS => ?_)
  refine lv_if_eq (tgt := 15) hx hb dX12_bars_4 (by decide) (fun c_4 => ?_) (fun c_4 => ?_)
  · have h := ifp c_4 h
    refine lv_iconst (v := (-1)) hx hb dX12_bars_15 (by decide) ?_
    exact r_iret X hP hS dX12_bars_16 h
  · have h := ifn c_4 h
    refine lv_aload_n hx hb dX12_bars_7 rfl (lv_at hl 0 rfl) ?_
    refine lv_iload_n hx hb dX12_bars_8 rfl (lv_at hl 2 rfl) ?_
    obtain ⟨r_5, m_6, hc_7, h⟩ := bd_some h
    refine c_V (rest := []) X hP hS (tX12_isSet hI  hc_7) (by decide) (L_ref _) rfl wt_7_56 wt_7_58 ws_4_12 wt_1_13 wt_7_59 ⟨rfl, hy_X12_isSet⟩ ⟨rfl, rfl⟩ ⟨Nat.le_of_ble_eq_true rfl, Nat.le_of_ble_eq_true rfl⟩ rfl hl.1 rfl (Nat.le_of_ble_eq_true rfl) dX12_bars_9 rfl (fun H locs hP hS => ?_)
    refine lv_if_ne (tgt := 17) hx hb dX12_bars_12 (by decide) (fun c_8 => ?_) (fun c_8 => ?_)
    · have h := ifn c_8 h
      refine lv_aload_n hx hb dX12_bars_17 rfl (lv_at hl 0 rfl) ?_
      refine lv_iload_n hx hb dX12_bars_18 rfl (lv_at hl 1 rfl) ?_
      refine lv_iload_n hx hb dX12_bars_19 rfl (lv_at hl 2 rfl) ?_
      obtain ⟨r_9, m_10, hc_11, h⟩ := bd_some h
      refine c_V (rest := []) X hP hS (tX12_findsPlans hI  hc_11) (by decide) (L_ref _) rfl wt_7_91 wt_7_93 ws_5_0 wt_1_13 wt_7_94 ⟨rfl, hy_X12_findsPlans⟩ ⟨rfl, rfl⟩ ⟨Nat.le_of_ble_eq_true rfl, Nat.le_of_ble_eq_true rfl⟩ rfl hl.1 rfl (Nat.le_of_ble_eq_true rfl) dX12_bars_20 rfl (fun H locs hP hS => ?_)
      refine lv_iconst (v := 0) hx hb dX12_bars_23 (by decide) ?_
      refine lv_istore_n (lv' := [(3, .int 0), (0, .ref (A 0)), (1, .int a1), (2, .int a2)]) hx hb dX12_bars_24 rfl hl (by decide) rfl (fun ls hl => ?_)
      exact tX12_bars_25 hI    X FL a2 0 m_10 _ _ _  h hP hS (lv_sub hl [1, 3, 0] rfl)
    · have h := ifp c_8 h
      refine lv_iconst (v := (-1)) hx hb dX12_bars_15 (by decide) ?_
      exact r_iret X hP hS dX12_bars_16 h

def fX12_valueFrom_90 (rec : Int32 → Int32 → Mm → Option (Int32 × Mm)) (K27 : Int32 → Int32 → Int32 → Int32 → Int32 → Mm → Option (Int32 × Mm)) (x1 : Int32) (x2 : Int32) (x5 : Int32) (x7 : Int32) (m : Mm) : Option (Int32 × Mm) := lt ((x5 : Int32) + 1) fun x5_24 => (K27 x1 x2 x7 x5 x5_24 m)
set_option maxHeartbeats 4000000 in
set_option maxRecDepth 100000 in
theorem tX12_valueFrom_90 {Fr Lr : Nat} (hI : InjA rN A)  {rec : Int32 → Int32 → Mm → Option (Int32 × Mm)} (hrec : ∀ (a1 : Int32) (a2 : Int32) (m : Mm) (r : Int32) (m' : Mm), rec a1 a2 m = some (r, m') → Met0 l yX12_valueFrom cX12_valueFrom 8 (some .int) { frames := Fr, cells := 0, slots := 0, locals := Lr } rLay rN D cA A [.ref (A 0), .int a1, .int a2] m (some (.int r)) m') {r : Int32} {m' : Mm} {K27 : Int32 → Int32 → Int32 → Int32 → Int32 → Mm → Option (Int32 × Mm)} (hK27 : ∀ (x1 : Int32) (x2 : Int32) (x3 : Int32) (x4 : Int32) (x5 : Int32) (m : Mm) (H : Heap) (locs : List Loc) (ls : Array Slot), K27 x1 x2 x3 x4 x5 m = some (r, m') → va_P D vwCl (wsOf rLay rN cA A m) H → va_S (AW rN A) s.heap H locs → lv_has ls 8 [(0, .ref (A 0)), (1, .int x1), (2, .int x2), (3, .int x3), (4, .int x4), (5, .int x5)] → W p l e { frames := Fr + 5, cells := 0, slots := 0, locals := Lr + 120 } s m0 args below meth c H locs 0 0 (ZR below args s rLay rN D cA A (some (.int r)) m') (F0 m0 27 ls [])) (X : CX rLay rN D cA A p s m0 args meth c "BenchTowelsModel" cX12_valueFrom 8 (some .int)) : ∀ (x1 : Int32) (x2 : Int32) (x5 : Int32) (x7 : Int32) (m : Mm) (H : Heap) (locs : List Loc) (ls : Array Slot), fX12_valueFrom_90 rec K27 x1 x2 x5 x7 m = some (r, m') → va_P D vwCl (wsOf rLay rN cA A m) H → va_S (AW rN A) s.heap H locs → lv_has ls 8 [(0, .ref (A 0)), (1, .int x1), (2, .int x2), (5, .int x5), (7, .int x7)] → W p l e { frames := Fr + 5, cells := 0, slots := 0, locals := Lr + 120 } s m0 args below meth c H locs 0 0 (ZR below args s rLay rN D cA A (some (.int r)) m') (F0 m0 90 ls []) := by
  have hx := X.1
  have hb := X.2.1
  have hml := X.2.2.1
  have hown := X.2.2.2.1
  have hts := X.2.2.2.2.1
  have hF := X.2.2.2.2.2.2.2.2.1
  intro x1 x2 x5 x7 m H locs ls h hP hS hl
  rewrite [fX12_valueFrom_90] at h
  refine lv_iload hx hb dX12_valueFrom_90 (lv_at hl 4 rfl) ?_
  refine lv_istore_n (lv' := [(3, .int x7), (0, .ref (A 0)), (1, .int x1), (2, .int x2), (5, .int x5), (7, .int x7)]) hx hb dX12_valueFrom_92 rfl hl (by decide) rfl (fun ls hl => ?_)
  refine lv_iload hx hb dX12_valueFrom_93 (lv_at hl 4 rfl) ?_
  refine lv_istore (lv' := [(4, .int x5), (3, .int x7), (0, .ref (A 0)), (1, .int x1), (2, .int x2), (5, .int x5), (7, .int x7)]) hx hb dX12_valueFrom_95 hl (by decide) rfl (fun ls hl => ?_)
  obtain ⟨x5_24, ex_25, h⟩ := lt_some h
  refine lv_iinc (v := x5_24) (lv' := [(5, .int x5_24), (4, .int x5), (3, .int x7), (0, .ref (A 0)), (1, .int x1), (2, .int x2), (7, .int x7)]) hx hb dX12_valueFrom_97 hl (k := 5) rfl (by rw [ex_25]; rfl) (by decide) rfl (fun ls hl => ?_)
  refine lv_goto (tgt := 27) hx hb dX12_valueFrom_100 (by decide) ?_
  exact hK27 x1 x2 x7 x5 x5_24 m _ _ _ h hP hS (lv_sub hl [3, 4, 5, 2, 1, 0] rfl)

def fX12_valueFrom_27 (rec : Int32 → Int32 → Mm → Option (Int32 × Mm)) : Nat → Int32 → Int32 → Int32 → Int32 → Int32 → Mm → Option (Int32 × Mm)
  | 0, _, _, _, _, _, _ => none
  | n + 1, x1, x2, x3, x4, x5, m => (if ((m 1 0) : Int32) < x5 then lt (up m 0 22 x4) fun m_10 => some (x3, m_10) else bd (fX12_goesWith x5 m) fun r_12 m_13 => bd (rec (x1 + 1) x2 m_13) fun r_15 m_16 => lt (r_12 + r_15) fun x7_18 => bd (fX12_laysBack x1 m_16) fun r_20 m_21 => (if x4 < 0 then fX12_valueFrom_90 rec (fun x1 x2 x3 x4 x5 m => fX12_valueFrom_27 rec n x1 x2 x3 x4 x5 m) x1 x2 x5 x7_18 m_21 else (if (x1 - x1 / 2 * 2) = 0 then (if x7_18 ≤ x3 then lt ((x5 : Int32) + 1) fun x5_31 => (fX12_valueFrom_27 rec n x1 x2 x3 x4 x5_31 m_21) else (fX12_valueFrom_90 rec (fun x1 x2 x3 x4 x5 m => fX12_valueFrom_27 rec n x1 x2 x3 x4 x5 m) x1 x2 x5 x7_18 m_21)) else (if (x3 : Int32) ≤ x7_18 then lt ((x5 : Int32) + 1) fun x5_28 => (fX12_valueFrom_27 rec n x1 x2 x3 x4 x5_28 m_21) else fX12_valueFrom_90 rec (fun x1 x2 x3 x4 x5 m => fX12_valueFrom_27 rec n x1 x2 x3 x4 x5 m) x1 x2 x5 x7_18 m_21))))
set_option maxHeartbeats 4000000 in
set_option maxRecDepth 100000 in
theorem tX12_valueFrom_27 {Fr Lr : Nat} (hI : InjA rN A)  {rec : Int32 → Int32 → Mm → Option (Int32 × Mm)} (hrec : ∀ (a1 : Int32) (a2 : Int32) (m : Mm) (r : Int32) (m' : Mm), rec a1 a2 m = some (r, m') → Met0 l yX12_valueFrom cX12_valueFrom 8 (some .int) { frames := Fr, cells := 0, slots := 0, locals := Lr } rLay rN D cA A [.ref (A 0), .int a1, .int a2] m (some (.int r)) m') {r : Int32} {m' : Mm} (X : CX rLay rN D cA A p s m0 args meth c "BenchTowelsModel" cX12_valueFrom 8 (some .int)) : ∀ (n : Nat) (x1 : Int32) (x2 : Int32) (x3 : Int32) (x4 : Int32) (x5 : Int32) (m : Mm) (H : Heap) (locs : List Loc) (ls : Array Slot), fX12_valueFrom_27 rec n x1 x2 x3 x4 x5 m = some (r, m') → va_P D vwCl (wsOf rLay rN cA A m) H → va_S (AW rN A) s.heap H locs → lv_has ls 8 [(0, .ref (A 0)), (1, .int x1), (2, .int x2), (3, .int x3), (4, .int x4), (5, .int x5)] → W p l e { frames := Fr + 5, cells := 0, slots := 0, locals := Lr + 120 } s m0 args below meth c H locs 0 0 (ZR below args s rLay rN D cA A (some (.int r)) m') (F0 m0 27 ls []) := by
  have hx := X.1
  have hb := X.2.1
  have hml := X.2.2.1
  have hown := X.2.2.2.1
  have hts := X.2.2.2.2.1
  have hF := X.2.2.2.2.2.2.2.2.1
  intro n
  induction n with
  | zero =>
    intro x1 x2 x3 x4 x5 m H locs ls h hP hS hl
    exact absurd h (by rewrite [fX12_valueFrom_27]; exact fun q => by cases q)
  | succ n ih =>
    intro x1 x2 x3 x4 x5 m H locs ls h hP hS hl
    rewrite [fX12_valueFrom_27] at h
    refine lv_iload hx hb dX12_valueFrom_27 (lv_at hl 5 rfl) ?_
    refine lv_aload_n hx hb dX12_valueFrom_29 rfl (lv_at hl 0 rfl) ?_
    refine r_get kc_12 0 X hP (by decide) (L_ref _) (by decide) rfl wt_5_172 dX12_valueFrom_30 ?_
    refine lv_iconst (v := 0) hx hb dX12_valueFrom_33 (by decide) ?_
    refine r_iald X hP (by decide) (Lr_1 _) (vpc (by decide)) ixc_0 dX12_valueFrom_34 ?_
    refine lv_icmp_gt (tgt := 103) hx hb dX12_valueFrom_35 (by decide) (fun c_9 => ?_) (fun c_9 => ?_)
    · have h := ifp c_9 h
      refine lv_aload_n hx hb dX12_valueFrom_103 rfl (lv_at hl 0 rfl) ?_
      refine lv_iload hx hb dX12_valueFrom_104 (lv_at hl 4 rfl) ?_
      obtain ⟨m_10, em_11, h⟩ := lt_some h
      refine r_put kc_12 22 X hP hS (by decide) (L_ref _) (L_ref _) (by decide) wt_5_194 rfl (by decide +kernel) (Nat.le_of_ble_eq_true rfl) dX12_valueFrom_106 em_11 (fun H locs hP hS => ?_)
      refine lv_iload_n hx hb dX12_valueFrom_109 rfl (lv_at hl 3 rfl) ?_
      exact r_iret X hP hS dX12_valueFrom_110 h
    · have h := ifn c_9 h
      refine lv_aload_n hx hb dX12_valueFrom_38 rfl (lv_at hl 0 rfl) ?_
      refine lv_iload hx hb dX12_valueFrom_39 (lv_at hl 5 rfl) ?_
      obtain ⟨r_12, m_13, hc_14, h⟩ := bd_some h
      refine c_V (rest := []) X hP hS (tX12_goesWith hI  hc_14) (by decide) (L_ref _) rfl wt_7_6 wt_7_8 ws_4_6 wt_1_13 wt_7_9 ⟨rfl, hy_X12_goesWith⟩ ⟨rfl, rfl⟩ ⟨by dsimp only; omega, by dsimp only; omega⟩ rfl hl.1 rfl (Nat.le_of_ble_eq_true rfl) dX12_valueFrom_41 rfl (fun H locs hP hS => ?_)
      refine lv_istore (lv' := [(6, .int r_12), (0, .ref (A 0)), (1, .int x1), (2, .int x2), (3, .int x3), (4, .int x4), (5, .int x5)]) hx hb dX12_valueFrom_44 hl (by decide) rfl (fun ls hl => ?_)
      refine lv_iload hx hb dX12_valueFrom_46 (lv_at hl 0 rfl) ?_
      refine lv_aload_n hx hb dX12_valueFrom_48 rfl (lv_at hl 1 rfl) ?_
      refine lv_iload_n hx hb dX12_valueFrom_49 rfl (lv_at hl 2 rfl) ?_
      refine lv_iconst (v := 1) hx hb dX12_valueFrom_50 (by decide) ?_
      refine lv_iadd hx hb dX12_valueFrom_51 ?_
      refine lv_iload_n hx hb dX12_valueFrom_52 rfl (lv_at hl 3 rfl) ?_
      obtain ⟨r_15, m_16, hc_17, h⟩ := bd_some h
      refine c_V (rest := [.int r_12]) X hP hS (hrec (x1 + 1) x2 _ _ _ hc_17) (by decide) (L_ref _) rfl wt_7_120 wt_7_122 ws_5_2 wt_1_13 wt_7_123 ⟨rfl, hy_X12_valueFrom⟩ ⟨rfl, rfl⟩ ⟨by dsimp only; omega, by dsimp only; omega⟩ rfl hl.1 rfl (Nat.le_of_ble_eq_true rfl) dX12_valueFrom_53 rfl (fun H locs hP hS => ?_)
      refine lv_iadd hx hb dX12_valueFrom_56 ?_
      obtain ⟨x7_18, ex_19, h⟩ := lt_some h
      refine lv_ren ex_19 ?_
      refine lv_istore (lv' := [(7, .int x7_18), (6, .int r_12), (0, .ref (A 0)), (1, .int x1), (2, .int x2), (3, .int x3), (4, .int x4), (5, .int x5)]) hx hb dX12_valueFrom_57 hl (by decide) rfl (fun ls hl => ?_)
      refine lv_aload_n hx hb dX12_valueFrom_59 rfl (lv_at hl 2 rfl) ?_
      refine lv_iload_n hx hb dX12_valueFrom_60 rfl (lv_at hl 3 rfl) ?_
      obtain ⟨r_20, m_21, hc_22, h⟩ := bd_some h
      refine c_V (rest := []) X hP hS (tX12_laysBack hI  hc_22) (by decide) (L_ref _) rfl wt_7_32 wt_7_34 ws_4_10 wt_1_13 wt_7_35 ⟨rfl, hy_X12_laysBack⟩ ⟨rfl, rfl⟩ ⟨by dsimp only; omega, by dsimp only; omega⟩ rfl hl.1 rfl (Nat.le_of_ble_eq_true rfl) dX12_valueFrom_61 rfl (fun H locs hP hS => ?_)
      refine lv_iload hx hb dX12_valueFrom_64 (lv_at hl 6 rfl) ?_
      refine lv_if_lt (tgt := 90) hx hb dX12_valueFrom_66 (by decide) (fun c_23 => ?_) (fun c_23 => ?_)
      · have h := ifp c_23 h
        exact tX12_valueFrom_90 hI  hrec (fun x1 x2 x3 x4 x5 m H locs ls h hP hS hl => ih x1 x2 x3 x4 x5 m H locs ls  h hP hS hl) X x1 x2 x5 x7_18 m_21 _ _ _  h hP hS (lv_sub hl [2, 3, 4, 7, 0] rfl)
      · have h := ifn c_23 h
        refine lv_iload_n hx hb dX12_valueFrom_69 rfl (lv_at hl 3 rfl) ?_
        refine lv_iconst (v := 2) hx hb dX12_valueFrom_70 (by decide) ?_
        refine lv_irem hx hb dX12_valueFrom_71 (by decide) ?_
        refine lv_if_ne (tgt := 84) hx hb dX12_valueFrom_72 (by decide) (fun c_26 => ?_) (fun c_26 => ?_)
        · have h := ifn c_26 h
          refine lv_iload hx hb dX12_valueFrom_84 (lv_at hl 0 rfl) ?_
          refine lv_iload_n hx hb dX12_valueFrom_86 rfl (lv_at hl 5 rfl) ?_
          refine lv_icmp_ge (tgt := 97) hx hb dX12_valueFrom_87 (by decide) (fun c_27 => ?_) (fun c_27 => ?_)
          · have h := ifp c_27 h
            obtain ⟨x5_28, ex_29, h⟩ := lt_some h
            refine lv_iinc (v := x5_28) (lv' := [(5, .int x5_28), (7, .int x7_18), (6, .int r_12), (0, .ref (A 0)), (1, .int x1), (2, .int x2), (3, .int x3), (4, .int x4)]) hx hb dX12_valueFrom_97 hl (k := 7) rfl (by rw [ex_29]; rfl) (by decide) rfl (fun ls hl => ?_)
            refine lv_goto (tgt := 27) hx hb dX12_valueFrom_100 (by decide) ?_
            exact ih x1 x2 x3 x4 x5_28 m_21 _ _ _  h hP hS (lv_sub hl [3, 4, 5, 6, 7, 0] rfl)
          · have h := ifn c_27 h
            exact tX12_valueFrom_90 hI  hrec (fun x1 x2 x3 x4 x5 m H locs ls h hP hS hl => ih x1 x2 x3 x4 x5 m H locs ls  h hP hS hl) X x1 x2 x5 x7_18 m_21 _ _ _  h hP hS (lv_sub hl [2, 3, 4, 7, 0] rfl)
        · have h := ifp c_26 h
          refine lv_iload hx hb dX12_valueFrom_75 (lv_at hl 0 rfl) ?_
          refine lv_iload_n hx hb dX12_valueFrom_77 rfl (lv_at hl 5 rfl) ?_
          refine lv_icmp_le (tgt := 97) hx hb dX12_valueFrom_78 (by decide) (fun c_30 => ?_) (fun c_30 => ?_)
          · have h := ifp c_30 h
            obtain ⟨x5_31, ex_32, h⟩ := lt_some h
            refine lv_iinc (v := x5_31) (lv' := [(5, .int x5_31), (7, .int x7_18), (6, .int r_12), (0, .ref (A 0)), (1, .int x1), (2, .int x2), (3, .int x3), (4, .int x4)]) hx hb dX12_valueFrom_97 hl (k := 7) rfl (by rw [ex_32]; rfl) (by decide) rfl (fun ls hl => ?_)
            refine lv_goto (tgt := 27) hx hb dX12_valueFrom_100 (by decide) ?_
            exact ih x1 x2 x3 x4 x5_31 m_21 _ _ _  h hP hS (lv_sub hl [3, 4, 5, 6, 7, 0] rfl)
          · have h := ifn c_30 h
            refine lv_goto (tgt := 90) hx hb dX12_valueFrom_81 (by decide) ?_
            exact tX12_valueFrom_90 hI  hrec (fun x1 x2 x3 x4 x5 m H locs ls h hP hS hl => ih x1 x2 x3 x4 x5 m H locs ls  h hP hS hl) X x1 x2 x5 x7_18 m_21 _ _ _  h hP hS (lv_sub hl [2, 3, 4, 7, 0] rfl)

def fX12_valueFrom (rec : Int32 → Int32 → Mm → Option (Int32 × Mm)) (a1 : Int32) (a2 : Int32) (m : Mm) : Option (Int32 × Mm) := (if a1 = a2 then some (0, m) else bd (fX12_isOver m) fun r_2 m_3 => (if r_2 = 0 then bd (fX12_laysAside a1 m_3) fun r_6 m_7 => (fX12_valueFrom_27 rec FL a1 a2 0 (-1) 0 m_7) else some (0, m_3)))
set_option maxHeartbeats 4000000 in
set_option maxRecDepth 100000 in
theorem tX12_valueFrom {l : Launch} {D : va_G} {cA : Nat → ClassId} {A : Nat → Nat} {Fr Lr : Nat} (hI : InjA rN A) {rec : Int32 → Int32 → Mm → Option (Int32 × Mm)} (hrec : ∀ (a1 : Int32) (a2 : Int32) (m : Mm) (r : Int32) (m' : Mm), rec a1 a2 m = some (r, m') → Met0 l yX12_valueFrom cX12_valueFrom 8 (some .int) { frames := Fr, cells := 0, slots := 0, locals := Lr } rLay rN D cA A [.ref (A 0), .int a1, .int a2] m (some (.int r)) m') {a1 : Int32} {a2 : Int32} {m m' : Mm} {r : Int32} (h : fX12_valueFrom rec a1 a2 m = some (r, m')) : Met0 l yX12_valueFrom cX12_valueFrom 8 (some .int) { frames := Fr + 5, cells := 0, slots := 0, locals := Lr + 120 } rLay rN D cA A [.ref (A 0), .int a1, .int a2] m (some (.int r)) m' := by
  refine met0_of (by decide) (Nat.le_of_ble_eq_true rfl) hI ?_
  intro p e s m0 below meth c ls X hinit hP hS hl
  generalize ([.ref (A 0), .int a1, .int a2] : List Value).toArray = args at X ⊢
  have hl : lv_has ls 8 [(0, .ref (A 0)), (1, .int a1), (2, .int a2)] := hl
  have X : CX rLay rN D cA A p s m0 args meth c "BenchTowelsModel" cX12_valueFrom 8 (some .int) := X
  have hx := X.1
  have hb := X.2.1
  have hml := X.2.2.1
  have hown := X.2.2.2.1
  have hts := X.2.2.2.2.1
  have hF := X.2.2.2.2.2.2.2.2.1
  rewrite [fX12_valueFrom] at h
  refine lv_iload_n hx hb dX12_valueFrom_0 rfl (lv_at hl 1 rfl) ?_
  refine lv_iload_n hx hb dX12_valueFrom_1 rfl (lv_at hl 2 rfl) ?_
  refine lv_icmp_eq (tgt := 12) hx hb dX12_valueFrom_2 (by decide) (fun c_1 => ?_) (fun c_1 => ?_)
  · have h := ifp c_1 h
    refine lv_iconst (v := 0) hx hb dX12_valueFrom_12 (by decide) ?_
    exact r_iret X hP hS dX12_valueFrom_13 h
  · have h := ifn c_1 h
    refine lv_aload_n hx hb dX12_valueFrom_5 rfl (lv_at hl 0 rfl) ?_
    obtain ⟨r_2, m_3, hc_4, h⟩ := bd_some h
    refine c_V (rest := []) X hP hS (tX12_isOver hI  hc_4) (by decide) (L_ref _) rfl wt_6_147 wt_6_149 ws_3_2 wt_1_13 wt_6_150 ⟨rfl, hy_X12_isOver⟩ ⟨rfl, rfl⟩ ⟨by dsimp only; omega, by dsimp only; omega⟩ rfl hl.1 rfl (Nat.le_of_ble_eq_true rfl) dX12_valueFrom_6 rfl (fun H locs hP hS => ?_)
    refine lv_if_eq (tgt := 14) hx hb dX12_valueFrom_9 (by decide) (fun c_5 => ?_) (fun c_5 => ?_)
    · have h := ifp c_5 h
      refine lv_aload_n hx hb dX12_valueFrom_14 rfl (lv_at hl 0 rfl) ?_
      refine lv_iload_n hx hb dX12_valueFrom_15 rfl (lv_at hl 1 rfl) ?_
      obtain ⟨r_6, m_7, hc_8, h⟩ := bd_some h
      refine c_V (rest := []) X hP hS (tX12_laysAside hI  hc_8) (by decide) (L_ref _) rfl wt_7_28 wt_7_30 ws_4_9 wt_1_13 wt_7_31 ⟨rfl, hy_X12_laysAside⟩ ⟨rfl, rfl⟩ ⟨by dsimp only; omega, by dsimp only; omega⟩ rfl hl.1 rfl (Nat.le_of_ble_eq_true rfl) dX12_valueFrom_16 rfl (fun H locs hP hS => ?_)
      refine lv_iconst (v := 0) hx hb dX12_valueFrom_19 (by decide) ?_
      refine lv_istore_n (lv' := [(3, .int 0), (0, .ref (A 0)), (1, .int a1), (2, .int a2)]) hx hb dX12_valueFrom_20 rfl hl (by decide) rfl (fun ls hl => ?_)
      refine lv_iconst (v := (-1)) hx hb dX12_valueFrom_21 (by decide) ?_
      refine lv_istore (lv' := [(4, .int (-1)), (3, .int 0), (0, .ref (A 0)), (1, .int a1), (2, .int a2)]) hx hb dX12_valueFrom_22 hl (by decide) rfl (fun ls hl => ?_)
      refine lv_iconst (v := 0) hx hb dX12_valueFrom_24 (by decide) ?_
      refine lv_istore (lv' := [(5, .int 0), (4, .int (-1)), (3, .int 0), (0, .ref (A 0)), (1, .int a1), (2, .int a2)]) hx hb dX12_valueFrom_25 hl (by decide) rfl (fun ls hl => ?_)
      exact tX12_valueFrom_27 hI  hrec  X FL a1 a2 0 (-1) 0 m_7 _ _ _  h hP hS (lv_sub hl [3, 4, 5, 2, 1, 0] rfl)
    · have h := ifn c_5 h
      refine lv_iconst (v := 0) hx hb dX12_valueFrom_12 (by decide) ?_
      exact r_iret X hP hS dX12_valueFrom_13 h
def rX12_valueFrom : Nat → Int32 → Int32 → Mm → Option (Int32 × Mm)
  | 0, _, _, _ => none
  | n + 1, a1, a2, m => fX12_valueFrom (rX12_valueFrom n) a1 a2 m
theorem tr0X12_valueFrom {l : Launch} {D : va_G} {cA : Nat → ClassId} {A : Nat → Nat} (hI : InjA rN A) : ∀ (n : Nat) (a1 : Int32) (a2 : Int32) (m : Mm) (r : Int32) (m' : Mm), rX12_valueFrom n a1 a2 m = some (r, m') → Met0 l yX12_valueFrom cX12_valueFrom 8 (some .int) { frames := 5 * n, cells := 0, slots := 0, locals := 120 * n } rLay rN D cA A [.ref (A 0), .int a1, .int a2] m (some (.int r)) m' := by
  intro n
  induction n with
  | zero =>
    intro a1 a2 m r m' h
    exact absurd h (by rewrite [rX12_valueFrom]; exact fun q => by cases q)
  | succ n ih =>
    intro a1 a2 m r m' h
    rewrite [rX12_valueFrom] at h
    exact tX12_valueFrom (Fr := 5 * n) (Lr := 120 * n) hI  ih h
theorem trX12_valueFrom {l : Launch} {D : va_G} {cA : Nat → ClassId} {A : Nat → Nat} (hI : InjA rN A) (n : Nat) (a1 : Int32) (a2 : Int32) (m : Mm) (r : Int32) (m' : Mm) (h : rX12_valueFrom n a1 a2 m = some (r, m')) : Met0 l yX12_valueFrom cX12_valueFrom 8 (some .int) { frames := 5 * n, cells := 0, slots := 0, locals := 120 * n } rLay rN D cA A [.ref (A 0), .int a1, .int a2] m (some (.int r)) m' := tr0X12_valueFrom hI n a1 a2 m r m' h

def fX12_game (a1 : Int32) (m : Mm) : Option (Int32 × Mm) := bd (fX12_isIn (Int32.toInt64 a1) (1 : Int64) (4 : Int64) m) fun r_1 m_2 => (if r_1 = 0 then some ((-1), m_2) else bd (rX12_valueFrom 6 (0 : Int32) a1 m_2) fun r_5 m_6 => some (r_5, m_6))
set_option maxHeartbeats 4000000 in
set_option maxRecDepth 100000 in
theorem tX12_game {l : Launch} {D : va_G} {cA : Nat → ClassId} {A : Nat → Nat} (hI : InjA rN A) {a1 : Int32} {m m' : Mm} {r : Int32} (h : fX12_game a1 m = some (r, m')) : Met0 l yX12_game cX12_game 2 (some .int) { frames := 31, cells := 0, slots := 0, locals := 747 } rLay rN D cA A [.ref (A 0), .int a1] m (some (.int r)) m' := by
  refine met0_of (by decide) (Nat.le_of_ble_eq_true rfl) hI ?_
  intro p e s m0 below meth c ls X hinit hP hS hl
  generalize ([.ref (A 0), .int a1] : List Value).toArray = args at X ⊢
  have hl : lv_has ls 2 [(0, .ref (A 0)), (1, .int a1)] := hl
  have X : CX rLay rN D cA A p s m0 args meth c "BenchTowelsModel" cX12_game 2 (some .int) := X
  have hx := X.1
  have hb := X.2.1
  have hml := X.2.2.1
  have hown := X.2.2.2.1
  have hts := X.2.2.2.2.1
  have hF := X.2.2.2.2.2.2.2.2.1
  rewrite [fX12_game] at h
  refine lv_iload_n hx hb dX12_game_0 rfl (lv_at hl 1 rfl) ?_
  refine lv_i2l hx hb dX12_game_1 rfl ?_
  refine lv_lconst (v := 1) hx hb dX12_game_2 (by decide) ?_
  refine lv_ldc2 (v := 4) hx hb hown (hts _ wt_6_112) dX12_game_3 ?_
  obtain ⟨r_1, m_2, hc_3, h⟩ := bd_some h
  refine c_S (rest := []) X hP hS (tX12_isIn hI  hc_3) wt_6_55 wt_6_56 wt_1_13 wt_6_57 hy_X12_isIn ⟨rfl, rfl⟩ ⟨Nat.le_of_ble_eq_true rfl, Nat.le_of_ble_eq_true rfl⟩ rfl hl.1 rfl (Nat.le_of_ble_eq_true rfl) dX12_game_6 rfl (fun H locs hP hS => ?_)
  refine lv_if_eq (tgt := 21) hx hb dX12_game_9 (by decide) (fun c_4 => ?_) (fun c_4 => ?_)
  · have h := ifp c_4 h
    refine lv_iconst (v := (-1)) hx hb dX12_game_21 (by decide) ?_
    exact r_iret X hP hS dX12_game_22 h
  · have h := ifn c_4 h
    refine lv_aload_n hx hb dX12_game_12 rfl (lv_at hl 0 rfl) ?_
    refine lv_iconst (v := 0) hx hb dX12_game_13 (by decide) ?_
    refine lv_iload_n hx hb dX12_game_14 rfl (lv_at hl 1 rfl) ?_
    obtain ⟨r_5, m_6, hc_7, h⟩ := bd_some h
    refine c_V (rest := []) X hP hS (trX12_valueFrom hI  6 (0 : Int32) a1 _ _ _ hc_7) (by decide) (L_ref _) rfl wt_7_120 wt_7_122 ws_5_2 wt_1_13 wt_7_123 ⟨rfl, hy_X12_valueFrom⟩ ⟨rfl, rfl⟩ ⟨Nat.le_of_ble_eq_true rfl, Nat.le_of_ble_eq_true rfl⟩ rfl hl.1 rfl (Nat.le_of_ble_eq_true rfl) dX12_game_15 rfl (fun H locs hP hS => ?_)
    refine lv_goto (tgt := 22) hx hb dX12_game_18 (by decide) ?_
    exact r_iret X hP hS dX12_game_22 h

def fX12_play (a1 : Int32) (m : Mm) : Option (Int32 × Mm) := bd (fX12_isIn (Int32.toInt64 a1) (1 : Int64) (4 : Int64) m) fun r_1 m_2 => (if r_1 = 0 then some ((-1), m_2) else bd (fX12_isOver m_2) fun r_5 m_6 => (if r_5 = 0 then bd (rX12_valueFrom 6 (0 : Int32) a1 m_6) fun r_9 m_10 => some ((m_10 0 22), m_10) else some ((-3), m_6)))
set_option maxHeartbeats 4000000 in
set_option maxRecDepth 100000 in
theorem tX12_play {l : Launch} {D : va_G} {cA : Nat → ClassId} {A : Nat → Nat} (hI : InjA rN A) {a1 : Int32} {m m' : Mm} {r : Int32} (h : fX12_play a1 m = some (r, m')) : Met0 l yX12_play cX12_play 3 (some .int) { frames := 31, cells := 0, slots := 0, locals := 747 } rLay rN D cA A [.ref (A 0), .int a1] m (some (.int r)) m' := by
  refine met0_of (by decide) (Nat.le_of_ble_eq_true rfl) hI ?_
  intro p e s m0 below meth c ls X hinit hP hS hl
  generalize ([.ref (A 0), .int a1] : List Value).toArray = args at X ⊢
  have hl : lv_has ls 3 [(0, .ref (A 0)), (1, .int a1)] := hl
  have X : CX rLay rN D cA A p s m0 args meth c "BenchTowelsModel" cX12_play 3 (some .int) := X
  have hx := X.1
  have hb := X.2.1
  have hml := X.2.2.1
  have hown := X.2.2.2.1
  have hts := X.2.2.2.2.1
  have hF := X.2.2.2.2.2.2.2.2.1
  rewrite [fX12_play] at h
  refine lv_iload_n hx hb dX12_play_0 rfl (lv_at hl 1 rfl) ?_
  refine lv_i2l hx hb dX12_play_1 rfl ?_
  refine lv_lconst (v := 1) hx hb dX12_play_2 (by decide) ?_
  refine lv_ldc2 (v := 4) hx hb hown (hts _ wt_6_112) dX12_play_3 ?_
  obtain ⟨r_1, m_2, hc_3, h⟩ := bd_some h
  refine c_S (rest := []) X hP hS (tX12_isIn hI  hc_3) wt_6_55 wt_6_56 wt_1_13 wt_6_57 hy_X12_isIn ⟨rfl, rfl⟩ ⟨Nat.le_of_ble_eq_true rfl, Nat.le_of_ble_eq_true rfl⟩ rfl hl.1 rfl (Nat.le_of_ble_eq_true rfl) dX12_play_6 rfl (fun H locs hP hS => ?_)
  refine lv_if_ne (tgt := 14) hx hb dX12_play_9 (by decide) (fun c_4 => ?_) (fun c_4 => ?_)
  · have h := ifn c_4 h
    refine lv_aload_n hx hb dX12_play_14 rfl (lv_at hl 0 rfl) ?_
    obtain ⟨r_5, m_6, hc_7, h⟩ := bd_some h
    refine c_V (rest := []) X hP hS (tX12_isOver hI  hc_7) (by decide) (L_ref _) rfl wt_6_147 wt_6_149 ws_3_2 wt_1_13 wt_6_150 ⟨rfl, hy_X12_isOver⟩ ⟨rfl, rfl⟩ ⟨Nat.le_of_ble_eq_true rfl, Nat.le_of_ble_eq_true rfl⟩ rfl hl.1 rfl (Nat.le_of_ble_eq_true rfl) dX12_play_15 rfl (fun H locs hP hS => ?_)
    refine lv_if_eq (tgt := 24) hx hb dX12_play_18 (by decide) (fun c_8 => ?_) (fun c_8 => ?_)
    · have h := ifp c_8 h
      refine lv_aload_n hx hb dX12_play_24 rfl (lv_at hl 0 rfl) ?_
      refine lv_iconst (v := 0) hx hb dX12_play_25 (by decide) ?_
      refine lv_iload_n hx hb dX12_play_26 rfl (lv_at hl 1 rfl) ?_
      obtain ⟨r_9, m_10, hc_11, h⟩ := bd_some h
      refine c_V (rest := []) X hP hS (trX12_valueFrom hI  6 (0 : Int32) a1 _ _ _ hc_11) (by decide) (L_ref _) rfl wt_7_120 wt_7_122 ws_5_2 wt_1_13 wt_7_123 ⟨rfl, hy_X12_valueFrom⟩ ⟨rfl, rfl⟩ ⟨Nat.le_of_ble_eq_true rfl, Nat.le_of_ble_eq_true rfl⟩ rfl hl.1 rfl (Nat.le_of_ble_eq_true rfl) dX12_play_27 rfl (fun H locs hP hS => ?_)
      refine lv_istore_n (lv' := [(2, .int r_9), (0, .ref (A 0)), (1, .int a1)]) hx hb dX12_play_30 rfl hl (by decide) rfl (fun ls hl => ?_)
      refine lv_aload_n hx hb dX12_play_31 rfl (lv_at hl 1 rfl) ?_
      refine r_get kc_12 22 X hP (by decide) (L_ref _) (by decide) rfl wt_5_194 dX12_play_32 ?_
      exact r_iret X hP hS dX12_play_35 h
    · have h := ifn c_8 h
      refine lv_bipush (v := (-3)) hx hb dX12_play_21 (by decide) ?_
      exact r_iret X hP hS dX12_play_23 h
  · have h := ifp c_4 h
    refine lv_iconst (v := (-1)) hx hb dX12_play_12 (by decide) ?_
    exact r_iret X hP hS dX12_play_13 h

def fX12_report (a1 : Int32) (a2 : Int32) (a3 : Int32) (m : Mm) : Option (Int32 × Mm) := bd (fX12_isIn (Int32.toInt64 a1) (0 : Int64) (15 : Int64) m) fun r_1 m_2 => (if r_1 = 0 then some ((-1), m_2) else bd (fX12_isIn (Int32.toInt64 a2) (0 : Int64) (4 : Int64) m_2) fun r_5 m_6 => (if r_5 = 0 then some ((-1), m_6) else bd (fX12_isIn (Int32.toInt64 a3) (Int32.toInt64 a2) (4 : Int64) m_6) fun r_9 m_10 => (if r_9 = 0 then some ((-1), m_10) else (if (m_10 1 6) = 6 then some ((-2), m_10) else lt ((85 : Int32) + ((3 : Int32) * (m_10 1 6))) fun x4_14 => gx x4_14 553 (lt (up m_10 1 (ix x4_14) a1) fun m_17 => gx (x4_14 + 1) 553 (lt (up m_17 1 (ix (x4_14 + 1)) a2) fun m_20 => gx (x4_14 + 2) 553 (lt (up m_20 1 (ix (x4_14 + 2)) a3) fun m_23 => lt (up m_23 1 6 ((m_23 1 6) + 1)) fun m_25 => some (((m_25 1 6) - 1), m_25))))))))
set_option maxHeartbeats 4000000 in
set_option maxRecDepth 100000 in
theorem tX12_report {l : Launch} {D : va_G} {cA : Nat → ClassId} {A : Nat → Nat} (hI : InjA rN A) {a1 : Int32} {a2 : Int32} {a3 : Int32} {m m' : Mm} {r : Int32} (h : fX12_report a1 a2 a3 m = some (r, m')) : Met0 l yX12_report cX12_report 5 (some .int) { frames := 1, cells := 0, slots := 0, locals := 25 } rLay rN D cA A [.ref (A 0), .int a1, .int a2, .int a3] m (some (.int r)) m' := by
  refine met0_of (by decide) (Nat.le_of_ble_eq_true rfl) hI ?_
  intro p e s m0 below meth c ls X hinit hP hS hl
  generalize ([.ref (A 0), .int a1, .int a2, .int a3] : List Value).toArray = args at X ⊢
  have hl : lv_has ls 5 [(0, .ref (A 0)), (1, .int a1), (2, .int a2), (3, .int a3)] := hl
  have X : CX rLay rN D cA A p s m0 args meth c "BenchTowelsModel" cX12_report 5 (some .int) := X
  have hx := X.1
  have hb := X.2.1
  have hml := X.2.2.1
  have hown := X.2.2.2.1
  have hts := X.2.2.2.2.1
  have hF := X.2.2.2.2.2.2.2.2.1
  rewrite [fX12_report] at h
  refine lv_iload_n hx hb dX12_report_0 rfl (lv_at hl 1 rfl) ?_
  refine lv_i2l hx hb dX12_report_1 rfl ?_
  refine lv_lconst (v := 0) hx hb dX12_report_2 (by decide) ?_
  refine lv_ldc2 (v := 15) hx hb hown (hts _ wt_7_132) dX12_report_3 ?_
  obtain ⟨r_1, m_2, hc_3, h⟩ := bd_some h
  refine c_S (rest := []) X hP hS (tX12_isIn hI  hc_3) wt_6_55 wt_6_56 wt_1_13 wt_6_57 hy_X12_isIn ⟨rfl, rfl⟩ ⟨Nat.le_of_ble_eq_true rfl, Nat.le_of_ble_eq_true rfl⟩ rfl hl.1 rfl (Nat.le_of_ble_eq_true rfl) dX12_report_6 rfl (fun H locs hP hS => ?_)
  refine lv_if_eq (tgt := 37) hx hb dX12_report_9 (by decide) (fun c_4 => ?_) (fun c_4 => ?_)
  · have h := ifp c_4 h
    refine lv_iconst (v := (-1)) hx hb dX12_report_37 (by decide) ?_
    exact r_iret X hP hS dX12_report_38 h
  · have h := ifn c_4 h
    refine lv_iload_n hx hb dX12_report_12 rfl (lv_at hl 2 rfl) ?_
    refine lv_i2l hx hb dX12_report_13 rfl ?_
    refine lv_lconst (v := 0) hx hb dX12_report_14 (by decide) ?_
    refine lv_ldc2 (v := 4) hx hb hown (hts _ wt_6_112) dX12_report_15 ?_
    obtain ⟨r_5, m_6, hc_7, h⟩ := bd_some h
    refine c_S (rest := []) X hP hS (tX12_isIn hI  hc_7) wt_6_55 wt_6_56 wt_1_13 wt_6_57 hy_X12_isIn ⟨rfl, rfl⟩ ⟨Nat.le_of_ble_eq_true rfl, Nat.le_of_ble_eq_true rfl⟩ rfl hl.1 rfl (Nat.le_of_ble_eq_true rfl) dX12_report_18 rfl (fun H locs hP hS => ?_)
    refine lv_if_eq (tgt := 37) hx hb dX12_report_21 (by decide) (fun c_8 => ?_) (fun c_8 => ?_)
    · have h := ifp c_8 h
      refine lv_iconst (v := (-1)) hx hb dX12_report_37 (by decide) ?_
      exact r_iret X hP hS dX12_report_38 h
    · have h := ifn c_8 h
      refine lv_iload_n hx hb dX12_report_24 rfl (lv_at hl 3 rfl) ?_
      refine lv_i2l hx hb dX12_report_25 rfl ?_
      refine lv_iload_n hx hb dX12_report_26 rfl (lv_at hl 2 rfl) ?_
      refine lv_i2l hx hb dX12_report_27 rfl ?_
      refine lv_ldc2 (v := 4) hx hb hown (hts _ wt_6_112) dX12_report_28 ?_
      obtain ⟨r_9, m_10, hc_11, h⟩ := bd_some h
      refine c_S (rest := []) X hP hS (tX12_isIn hI  hc_11) wt_6_55 wt_6_56 wt_1_13 wt_6_57 hy_X12_isIn ⟨rfl, rfl⟩ ⟨Nat.le_of_ble_eq_true rfl, Nat.le_of_ble_eq_true rfl⟩ rfl hl.1 rfl (Nat.le_of_ble_eq_true rfl) dX12_report_31 rfl (fun H locs hP hS => ?_)
      refine lv_if_ne (tgt := 39) hx hb dX12_report_34 (by decide) (fun c_12 => ?_) (fun c_12 => ?_)
      · have h := ifn c_12 h
        refine lv_aload_n hx hb dX12_report_39 rfl (lv_at hl 0 rfl) ?_
        refine r_get kc_12 0 X hP (by decide) (L_ref _) (by decide) rfl wt_5_172 dX12_report_40 ?_
        refine lv_bipush (v := 6) hx hb dX12_report_43 (by decide) ?_
        refine r_iald X hP (by decide) (Lr_1 _) (vpc (by decide)) ixc_6 dX12_report_45 ?_
        refine lv_bipush (v := 6) hx hb dX12_report_46 (by decide) ?_
        refine lv_icmp_ne (tgt := 54) hx hb dX12_report_48 (by decide) (fun c_13 => ?_) (fun c_13 => ?_)
        · have h := ifn c_13 h
          refine lv_bipush (v := 85) hx hb dX12_report_54 (by decide) ?_
          refine lv_iconst (v := 3) hx hb dX12_report_56 (by decide) ?_
          refine lv_aload_n hx hb dX12_report_57 rfl (lv_at hl 0 rfl) ?_
          refine r_get kc_12 0 X hP (by decide) (L_ref _) (by decide) rfl wt_5_172 dX12_report_58 ?_
          refine lv_bipush (v := 6) hx hb dX12_report_61 (by decide) ?_
          refine r_iald X hP (by decide) (Lr_1 _) (vpc (by decide)) ixc_6 dX12_report_63 ?_
          refine lv_imul hx hb dX12_report_64 ?_
          refine lv_iadd hx hb dX12_report_65 ?_
          obtain ⟨x4_14, ex_15, h⟩ := lt_some h
          refine lv_ren ex_15 ?_
          refine lv_istore (lv' := [(4, .int x4_14), (0, .ref (A 0)), (1, .int a1), (2, .int a2), (3, .int a3)]) hx hb dX12_report_66 hl (by decide) rfl (fun ls hl => ?_)
          refine lv_aload_n hx hb dX12_report_68 rfl (lv_at hl 1 rfl) ?_
          refine r_get kc_12 0 X hP (by decide) (L_ref _) (by decide) rfl wt_5_172 dX12_report_69 ?_
          refine lv_iload hx hb dX12_report_72 (lv_at hl 0 rfl) ?_
          refine lv_iload_n hx hb dX12_report_74 rfl (lv_at hl 2 rfl) ?_
          obtain ⟨hin_16, h⟩ := gx_some h
          obtain ⟨m_17, em_18, h⟩ := lt_some h
          refine r_iast X hP hS (by decide) Lr_1 hin_16 rfl dX12_report_75 em_18 (fun H locs hP hS => ?_)
          refine lv_aload_n hx hb dX12_report_76 rfl (lv_at hl 1 rfl) ?_
          refine r_get kc_12 0 X hP (by decide) (L_ref _) (by decide) rfl wt_5_172 dX12_report_77 ?_
          refine lv_iload hx hb dX12_report_80 (lv_at hl 0 rfl) ?_
          refine lv_iconst (v := 1) hx hb dX12_report_82 (by decide) ?_
          refine lv_iadd hx hb dX12_report_83 ?_
          refine lv_iload_n hx hb dX12_report_84 rfl (lv_at hl 3 rfl) ?_
          obtain ⟨hin_19, h⟩ := gx_some h
          obtain ⟨m_20, em_21, h⟩ := lt_some h
          refine r_iast X hP hS (by decide) Lr_1 hin_19 rfl dX12_report_85 em_21 (fun H locs hP hS => ?_)
          refine lv_aload_n hx hb dX12_report_86 rfl (lv_at hl 1 rfl) ?_
          refine r_get kc_12 0 X hP (by decide) (L_ref _) (by decide) rfl wt_5_172 dX12_report_87 ?_
          refine lv_iload hx hb dX12_report_90 (lv_at hl 0 rfl) ?_
          refine lv_iconst (v := 2) hx hb dX12_report_92 (by decide) ?_
          refine lv_iadd hx hb dX12_report_93 ?_
          refine lv_iload_n hx hb dX12_report_94 rfl (lv_at hl 4 rfl) ?_
          obtain ⟨hin_22, h⟩ := gx_some h
          obtain ⟨m_23, em_24, h⟩ := lt_some h
          refine r_iast X hP hS (by decide) Lr_1 hin_22 rfl dX12_report_95 em_24 (fun H locs hP hS => ?_)
          refine lv_aload_n hx hb dX12_report_96 rfl (lv_at hl 1 rfl) ?_
          refine r_get kc_12 0 X hP (by decide) (L_ref _) (by decide) rfl wt_5_172 dX12_report_97 ?_
          refine lv_bipush (v := 6) hx hb dX12_report_100 (by decide) ?_
          refine lv_dup2_11 hx hb dX12_report_102 rfl rfl ?_
          refine r_iald X hP (by decide) (Lr_1 _) (vpc (by decide)) ixc_6 dX12_report_103 ?_
          refine lv_iconst (v := 1) hx hb dX12_report_104 (by decide) ?_
          refine lv_iadd hx hb dX12_report_105 ?_
          obtain ⟨m_25, em_26, h⟩ := lt_some h
          refine r_iast X hP hS (by decide) Lr_1 (vpc (by decide)) ixc_6 dX12_report_106 em_26 (fun H locs hP hS => ?_)
          refine lv_aload_n hx hb dX12_report_107 rfl (lv_at hl 1 rfl) ?_
          refine r_get kc_12 0 X hP (by decide) (L_ref _) (by decide) rfl wt_5_172 dX12_report_108 ?_
          refine lv_bipush (v := 6) hx hb dX12_report_111 (by decide) ?_
          refine r_iald X hP (by decide) (Lr_1 _) (vpc (by decide)) ixc_6 dX12_report_113 ?_
          refine lv_iconst (v := 1) hx hb dX12_report_114 (by decide) ?_
          refine lv_isub hx hb dX12_report_115 ?_
          exact r_iret X hP hS dX12_report_116 h
        · have h := ifp c_13 h
          refine lv_bipush (v := (-2)) hx hb dX12_report_51 (by decide) ?_
          exact r_iret X hP hS dX12_report_53 h
      · have h := ifp c_12 h
        refine lv_iconst (v := (-1)) hx hb dX12_report_37 (by decide) ?_
        exact r_iret X hP hS dX12_report_38 h

def fX12_forget  (m : Mm) : Option (Int32 × Mm) := bd (fX12_becomes (6 : Int32) (0 : Int32) m) fun r_1 m_2 => some (r_1, m_2)
set_option maxHeartbeats 4000000 in
set_option maxRecDepth 100000 in
theorem tX12_forget {l : Launch} {D : va_G} {cA : Nat → ClassId} {A : Nat → Nat} (hI : InjA rN A) {m m' : Mm} {r : Int32} (h : fX12_forget m = some (r, m')) : Met0 l yX12_forget cX12_forget 1 (some .int) { frames := 1, cells := 0, slots := 0, locals := 23 } rLay rN D cA A [.ref (A 0)] m (some (.int r)) m' := by
  refine met0_of (by decide) (Nat.le_of_ble_eq_true rfl) hI ?_
  intro p e s m0 below meth c ls X hinit hP hS hl
  generalize ([.ref (A 0)] : List Value).toArray = args at X ⊢
  have hl : lv_has ls 1 [(0, .ref (A 0))] := hl
  have X : CX rLay rN D cA A p s m0 args meth c "BenchTowelsModel" cX12_forget 1 (some .int) := X
  have hx := X.1
  have hb := X.2.1
  have hml := X.2.2.1
  have hown := X.2.2.2.1
  have hts := X.2.2.2.2.1
  have hF := X.2.2.2.2.2.2.2.2.1
  rewrite [fX12_forget] at h
  refine lv_aload_n hx hb dX12_forget_0 rfl (lv_at hl 0 rfl) ?_
  refine lv_bipush (v := 6) hx hb dX12_forget_1 (by decide) ?_
  refine lv_iconst (v := 0) hx hb dX12_forget_3 (by decide) ?_
  obtain ⟨r_1, m_2, hc_3, h⟩ := bd_some h
  refine c_V (rest := []) X hP hS (tX12_becomes hI  hc_3) (by decide) (L_ref _) rfl wt_6_113 wt_6_115 ws_3_1 wt_1_13 wt_6_116 ⟨rfl, hy_X12_becomes⟩ ⟨rfl, rfl⟩ ⟨Nat.le_of_ble_eq_true rfl, Nat.le_of_ble_eq_true rfl⟩ rfl hl.1 rfl (Nat.le_of_ble_eq_true rfl) dX12_forget_4 rfl (fun H locs hP hS => ?_)
  exact r_iret X hP hS dX12_forget_7 h

def fX12_isFit_131 (K27 : Int32 → Int32 → Int32 → Int32 → Int32 → Int32 → Mm → Option (Int32 × Mm)) (x2 : Int32) (x3 : Int32) (x4 : Int32) (x5 : Int32) (x7 : Int32) (s0 : Int32) (m : Mm) : Option (Int32 × Mm) := lt (s0 &&& 1) fun x6_13 => lt ((x7 : Int32) + 1) fun x7_15 => (K27 x2 x3 x4 x5 x6_13 x7_15 m)
set_option maxHeartbeats 4000000 in
set_option maxRecDepth 100000 in
theorem tX12_isFit_131 (hI : InjA rN A)  {r : Int32} {m' : Mm} {K27 : Int32 → Int32 → Int32 → Int32 → Int32 → Int32 → Mm → Option (Int32 × Mm)} (hK27 : ∀ (x2 : Int32) (x3 : Int32) (x4 : Int32) (x5 : Int32) (x6 : Int32) (x7 : Int32) (m : Mm) (H : Heap) (locs : List Loc) (ls : Array Slot), K27 x2 x3 x4 x5 x6 x7 m = some (r, m') → va_P D vwCl (wsOf rLay rN cA A m) H → va_S (AW rN A) s.heap H locs → lv_has ls 11 [(0, .ref (A 0)), (2, .int x2), (3, .int x3), (4, .int x4), (5, .int x5), (6, .int x6), (7, .int x7)] → W p l e { frames := 1, cells := 0, slots := 0, locals := 25 } s m0 args below meth c H locs 0 0 (ZR below args s rLay rN D cA A (some (.int r)) m') (F0 m0 27 ls [])) (X : CX rLay rN D cA A p s m0 args meth c "BenchTowelsModel" cX12_isFit 11 (some .boolean)) : ∀ (x2 : Int32) (x3 : Int32) (x4 : Int32) (x5 : Int32) (x7 : Int32) (s0 : Int32) (m : Mm) (H : Heap) (locs : List Loc) (ls : Array Slot), fX12_isFit_131 K27 x2 x3 x4 x5 x7 s0 m = some (r, m') → va_P D vwCl (wsOf rLay rN cA A m) H → va_S (AW rN A) s.heap H locs → lv_has ls 11 [(0, .ref (A 0)), (2, .int x2), (3, .int x3), (4, .int x4), (5, .int x5), (7, .int x7)] → W p l e { frames := 1, cells := 0, slots := 0, locals := 25 } s m0 args below meth c H locs 0 0 (ZR below args s rLay rN D cA A (some (.int r)) m') (F0 m0 131 ls [.int s0]) := by
  have hx := X.1
  have hb := X.2.1
  have hml := X.2.2.1
  have hown := X.2.2.2.1
  have hts := X.2.2.2.2.1
  have hF := X.2.2.2.2.2.2.2.2.1
  intro x2 x3 x4 x5 x7 s0 m H locs ls h hP hS hl
  rewrite [fX12_isFit_131] at h
  refine lv_iconst (v := 1) hx hb dX12_isFit_131 (by decide) ?_
  refine lv_goto (tgt := 136) hx hb dX12_isFit_132 (by decide) ?_
  refine lv_iand hx hb dX12_isFit_136 ?_
  obtain ⟨x6_13, ex_14, h⟩ := lt_some h
  refine lv_ren ex_14 ?_
  refine lv_istore (lv' := [(6, .int x6_13), (0, .ref (A 0)), (2, .int x2), (3, .int x3), (4, .int x4), (5, .int x5), (7, .int x7)]) hx hb dX12_isFit_137 hl (by decide) rfl (fun ls hl => ?_)
  obtain ⟨x7_15, ex_16, h⟩ := lt_some h
  refine lv_iinc (v := x7_15) (lv' := [(7, .int x7_15), (6, .int x6_13), (0, .ref (A 0)), (2, .int x2), (3, .int x3), (4, .int x4), (5, .int x5)]) hx hb dX12_isFit_139 hl (k := 6) rfl (by rw [ex_16]; rfl) (by decide) rfl (fun ls hl => ?_)
  refine lv_goto (tgt := 27) hx hb dX12_isFit_142 (by decide) ?_
  exact hK27 x2 x3 x4 x5 x6_13 x7_15 m _ _ _ h hP hS (lv_sub hl [2, 3, 4, 5, 6, 1, 0] rfl)

def fX12_isFit_54 (K27 : Int32 → Int32 → Int32 → Int32 → Int32 → Int32 → Mm → Option (Int32 × Mm)) : Nat → Int32 → Int32 → Int32 → Int32 → Int32 → Int32 → Int32 → Int32 → Int32 → Mm → Option (Int32 × Mm)
  | 0, _, _, _, _, _, _, _, _, _, _ => none
  | n + 1, x2, x3, x4, x5, x6, x7, x8, x9, x10, m => (if (x5 : Int32) ≤ x10 then (if x7 = x2 then fX12_isFit_131 K27 x2 x3 x4 x5 x7 x6 m else gx (x8 + 1) 553 (gx (x8 + 2) 553 (bd (fX12_isIn (Int32.toInt64 x9) (Int32.toInt64 (m 1 (ix (x8 + 1)))) (Int32.toInt64 (m 1 (ix (x8 + 2)))) m) fun r_19 m_20 => (if r_19 = 0 then lt (x6 &&& 0) fun x6_23 => lt ((x7 : Int32) + 1) fun x7_25 => (K27 x2 x3 x4 x5 x6_23 x7_25 m_20) else fX12_isFit_131 K27 x2 x3 x4 x5 x7 x6 m_20)))) else gx x8 553 ((if ((m 1 (ix x8)) : Int32) < (x3 + (x10 * x4)) then lt (x9 + 0) fun x9_29 => lt ((x10 : Int32) + 1) fun x10_31 => (fX12_isFit_54 K27 n x2 x3 x4 x5 x6 x7 x8 x9_29 x10_31 m) else lt (x9 + 1) fun x9_33 => lt ((x10 : Int32) + 1) fun x10_35 => (fX12_isFit_54 K27 n x2 x3 x4 x5 x6 x7 x8 x9_33 x10_35 m))))
set_option maxHeartbeats 4000000 in
set_option maxRecDepth 100000 in
theorem tX12_isFit_54 (hI : InjA rN A)  {r : Int32} {m' : Mm} {K27 : Int32 → Int32 → Int32 → Int32 → Int32 → Int32 → Mm → Option (Int32 × Mm)} (hK27 : ∀ (x2 : Int32) (x3 : Int32) (x4 : Int32) (x5 : Int32) (x6 : Int32) (x7 : Int32) (m : Mm) (H : Heap) (locs : List Loc) (ls : Array Slot), K27 x2 x3 x4 x5 x6 x7 m = some (r, m') → va_P D vwCl (wsOf rLay rN cA A m) H → va_S (AW rN A) s.heap H locs → lv_has ls 11 [(0, .ref (A 0)), (2, .int x2), (3, .int x3), (4, .int x4), (5, .int x5), (6, .int x6), (7, .int x7)] → W p l e { frames := 1, cells := 0, slots := 0, locals := 25 } s m0 args below meth c H locs 0 0 (ZR below args s rLay rN D cA A (some (.int r)) m') (F0 m0 27 ls [])) (X : CX rLay rN D cA A p s m0 args meth c "BenchTowelsModel" cX12_isFit 11 (some .boolean)) : ∀ (n : Nat) (x2 : Int32) (x3 : Int32) (x4 : Int32) (x5 : Int32) (x6 : Int32) (x7 : Int32) (x8 : Int32) (x9 : Int32) (x10 : Int32) (m : Mm) (H : Heap) (locs : List Loc) (ls : Array Slot), fX12_isFit_54 K27 n x2 x3 x4 x5 x6 x7 x8 x9 x10 m = some (r, m') → va_P D vwCl (wsOf rLay rN cA A m) H → va_S (AW rN A) s.heap H locs → lv_has ls 11 [(0, .ref (A 0)), (2, .int x2), (3, .int x3), (4, .int x4), (5, .int x5), (6, .int x6), (7, .int x7), (8, .int x8), (9, .int x9), (10, .int x10)] → W p l e { frames := 1, cells := 0, slots := 0, locals := 25 } s m0 args below meth c H locs 0 0 (ZR below args s rLay rN D cA A (some (.int r)) m') (F0 m0 54 ls []) := by
  have hx := X.1
  have hb := X.2.1
  have hml := X.2.2.1
  have hown := X.2.2.2.1
  have hts := X.2.2.2.2.1
  have hF := X.2.2.2.2.2.2.2.2.1
  intro n
  induction n with
  | zero =>
    intro x2 x3 x4 x5 x6 x7 x8 x9 x10 m H locs ls h hP hS hl
    exact absurd h (by rewrite [fX12_isFit_54]; exact fun q => by cases q)
  | succ n ih =>
    intro x2 x3 x4 x5 x6 x7 x8 x9 x10 m H locs ls h hP hS hl
    rewrite [fX12_isFit_54] at h
    refine lv_iload hx hb dX12_isFit_54 (lv_at hl 9 rfl) ?_
    refine lv_iload hx hb dX12_isFit_56 (lv_at hl 4 rfl) ?_
    refine lv_icmp_ge (tgt := 94) hx hb dX12_isFit_58 (by decide) (fun c_11 => ?_) (fun c_11 => ?_)
    · have h := ifp c_11 h
      refine lv_iload hx hb dX12_isFit_94 (lv_at hl 5 rfl) ?_
      refine lv_iload hx hb dX12_isFit_96 (lv_at hl 6 rfl) ?_
      refine lv_iload_n hx hb dX12_isFit_98 rfl (lv_at hl 1 rfl) ?_
      refine lv_icmp_eq (tgt := 131) hx hb dX12_isFit_99 (by decide) (fun c_12 => ?_) (fun c_12 => ?_)
      · have h := ifp c_12 h
        exact tX12_isFit_131 hI   hK27 X x2 x3 x4 x5 x7 x6 m _ _ _  h hP hS (lv_sub hl [0, 1, 2, 3, 4, 6] rfl)
      · have h := ifn c_12 h
        refine lv_iload hx hb dX12_isFit_102 (lv_at hl 8 rfl) ?_
        refine lv_i2l hx hb dX12_isFit_104 rfl ?_
        refine lv_aload_n hx hb dX12_isFit_105 rfl (lv_at hl 0 rfl) ?_
        refine r_get kc_12 0 X hP (by decide) (L_ref _) (by decide) rfl wt_5_172 dX12_isFit_106 ?_
        refine lv_iload hx hb dX12_isFit_109 (lv_at hl 7 rfl) ?_
        refine lv_iconst (v := 1) hx hb dX12_isFit_111 (by decide) ?_
        refine lv_iadd hx hb dX12_isFit_112 ?_
        obtain ⟨hin_17, h⟩ := gx_some h
        refine r_iald X hP (by decide) (Lr_1 _) hin_17 rfl dX12_isFit_113 ?_
        refine lv_i2l hx hb dX12_isFit_114 rfl ?_
        refine lv_aload_n hx hb dX12_isFit_115 rfl (lv_at hl 0 rfl) ?_
        refine r_get kc_12 0 X hP (by decide) (L_ref _) (by decide) rfl wt_5_172 dX12_isFit_116 ?_
        refine lv_iload hx hb dX12_isFit_119 (lv_at hl 7 rfl) ?_
        refine lv_iconst (v := 2) hx hb dX12_isFit_121 (by decide) ?_
        refine lv_iadd hx hb dX12_isFit_122 ?_
        obtain ⟨hin_18, h⟩ := gx_some h
        refine r_iald X hP (by decide) (Lr_1 _) hin_18 rfl dX12_isFit_123 ?_
        refine lv_i2l hx hb dX12_isFit_124 rfl ?_
        obtain ⟨r_19, m_20, hc_21, h⟩ := bd_some h
        refine c_S (rest := [.int x6]) X hP hS (tX12_isIn hI  hc_21) wt_6_55 wt_6_56 wt_1_13 wt_6_57 hy_X12_isIn ⟨rfl, rfl⟩ ⟨Nat.le_of_ble_eq_true rfl, Nat.le_of_ble_eq_true rfl⟩ rfl hl.1 rfl (Nat.le_of_ble_eq_true rfl) dX12_isFit_125 rfl (fun H locs hP hS => ?_)
        refine lv_if_eq (tgt := 135) hx hb dX12_isFit_128 (by decide) (fun c_22 => ?_) (fun c_22 => ?_)
        · have h := ifp c_22 h
          refine lv_iconst (v := 0) hx hb dX12_isFit_135 (by decide) ?_
          refine lv_iand hx hb dX12_isFit_136 ?_
          obtain ⟨x6_23, ex_24, h⟩ := lt_some h
          refine lv_ren ex_24 ?_
          refine lv_istore (lv' := [(6, .int x6_23), (0, .ref (A 0)), (2, .int x2), (3, .int x3), (4, .int x4), (5, .int x5), (7, .int x7), (8, .int x8), (9, .int x9), (10, .int x10)]) hx hb dX12_isFit_137 hl (by decide) rfl (fun ls hl => ?_)
          obtain ⟨x7_25, ex_26, h⟩ := lt_some h
          refine lv_iinc (v := x7_25) (lv' := [(7, .int x7_25), (6, .int x6_23), (0, .ref (A 0)), (2, .int x2), (3, .int x3), (4, .int x4), (5, .int x5), (8, .int x8), (9, .int x9), (10, .int x10)]) hx hb dX12_isFit_139 hl (k := 6) rfl (by rw [ex_26]; rfl) (by decide) rfl (fun ls hl => ?_)
          refine lv_goto (tgt := 27) hx hb dX12_isFit_142 (by decide) ?_
          exact hK27 x2 x3 x4 x5 x6_23 x7_25 m_20 _ _ _ h hP hS (lv_sub hl [2, 3, 4, 5, 6, 1, 0] rfl)
        · have h := ifn c_22 h
          exact tX12_isFit_131 hI   hK27 X x2 x3 x4 x5 x7 x6 m_20 _ _ _  h hP hS (lv_sub hl [0, 1, 2, 3, 4, 6] rfl)
    · have h := ifn c_11 h
      refine lv_iload hx hb dX12_isFit_61 (lv_at hl 8 rfl) ?_
      refine lv_iload_n hx hb dX12_isFit_63 rfl (lv_at hl 2 rfl) ?_
      refine lv_iload hx hb dX12_isFit_64 (lv_at hl 9 rfl) ?_
      refine lv_iload hx hb dX12_isFit_66 (lv_at hl 3 rfl) ?_
      refine lv_imul hx hb dX12_isFit_68 ?_
      refine lv_iadd hx hb dX12_isFit_69 ?_
      refine lv_aload_n hx hb dX12_isFit_70 rfl (lv_at hl 0 rfl) ?_
      refine r_get kc_12 0 X hP (by decide) (L_ref _) (by decide) rfl wt_5_172 dX12_isFit_71 ?_
      refine lv_iload hx hb dX12_isFit_74 (lv_at hl 7 rfl) ?_
      obtain ⟨hin_27, h⟩ := gx_some h
      refine r_iald X hP (by decide) (Lr_1 _) hin_27 rfl dX12_isFit_76 ?_
      refine lv_icmp_gt (tgt := 84) hx hb dX12_isFit_77 (by decide) (fun c_28 => ?_) (fun c_28 => ?_)
      · have h := ifp c_28 h
        refine lv_iconst (v := 0) hx hb dX12_isFit_84 (by decide) ?_
        refine lv_iadd hx hb dX12_isFit_85 ?_
        obtain ⟨x9_29, ex_30, h⟩ := lt_some h
        refine lv_ren ex_30 ?_
        refine lv_istore (lv' := [(9, .int x9_29), (0, .ref (A 0)), (2, .int x2), (3, .int x3), (4, .int x4), (5, .int x5), (6, .int x6), (7, .int x7), (8, .int x8), (10, .int x10)]) hx hb dX12_isFit_86 hl (by decide) rfl (fun ls hl => ?_)
        obtain ⟨x10_31, ex_32, h⟩ := lt_some h
        refine lv_iinc (v := x10_31) (lv' := [(10, .int x10_31), (9, .int x9_29), (0, .ref (A 0)), (2, .int x2), (3, .int x3), (4, .int x4), (5, .int x5), (6, .int x6), (7, .int x7), (8, .int x8)]) hx hb dX12_isFit_88 hl (k := 9) rfl (by rw [ex_32]; rfl) (by decide) rfl (fun ls hl => ?_)
        refine lv_goto (tgt := 54) hx hb dX12_isFit_91 (by decide) ?_
        exact ih x2 x3 x4 x5 x6 x7 x8 x9_29 x10_31 m _ _ _  h hP hS (lv_sub hl [2, 3, 4, 5, 6, 7, 8, 9, 1, 0] rfl)
      · have h := ifn c_28 h
        refine lv_iconst (v := 1) hx hb dX12_isFit_80 (by decide) ?_
        refine lv_goto (tgt := 85) hx hb dX12_isFit_81 (by decide) ?_
        refine lv_iadd hx hb dX12_isFit_85 ?_
        obtain ⟨x9_33, ex_34, h⟩ := lt_some h
        refine lv_ren ex_34 ?_
        refine lv_istore (lv' := [(9, .int x9_33), (0, .ref (A 0)), (2, .int x2), (3, .int x3), (4, .int x4), (5, .int x5), (6, .int x6), (7, .int x7), (8, .int x8), (10, .int x10)]) hx hb dX12_isFit_86 hl (by decide) rfl (fun ls hl => ?_)
        obtain ⟨x10_35, ex_36, h⟩ := lt_some h
        refine lv_iinc (v := x10_35) (lv' := [(10, .int x10_35), (9, .int x9_33), (0, .ref (A 0)), (2, .int x2), (3, .int x3), (4, .int x4), (5, .int x5), (6, .int x6), (7, .int x7), (8, .int x8)]) hx hb dX12_isFit_88 hl (k := 9) rfl (by rw [ex_36]; rfl) (by decide) rfl (fun ls hl => ?_)
        refine lv_goto (tgt := 54) hx hb dX12_isFit_91 (by decide) ?_
        exact ih x2 x3 x4 x5 x6 x7 x8 x9_33 x10_35 m _ _ _  h hP hS (lv_sub hl [2, 3, 4, 5, 6, 7, 8, 9, 1, 0] rfl)

def fX12_isFit_27  : Nat → Int32 → Int32 → Int32 → Int32 → Int32 → Int32 → Mm → Option (Int32 × Mm)
  | 0, _, _, _, _, _, _, _ => none
  | n + 1, x2, x3, x4, x5, x6, x7, m => (if ((m 1 6) : Int32) ≤ x7 then gb x6 (some (x6, m)) else lt ((85 : Int32) + ((3 : Int32) * x7)) fun x8_9 => (fX12_isFit_54 (fun x2 x3 x4 x5 x6 x7 m => fX12_isFit_27 n x2 x3 x4 x5 x6 x7 m) FL x2 x3 x4 x5 x6 x7 x8_9 0 0 m))
set_option maxHeartbeats 4000000 in
set_option maxRecDepth 100000 in
theorem tX12_isFit_27 (hI : InjA rN A)  {r : Int32} {m' : Mm} (X : CX rLay rN D cA A p s m0 args meth c "BenchTowelsModel" cX12_isFit 11 (some .boolean)) : ∀ (n : Nat) (x2 : Int32) (x3 : Int32) (x4 : Int32) (x5 : Int32) (x6 : Int32) (x7 : Int32) (m : Mm) (H : Heap) (locs : List Loc) (ls : Array Slot), fX12_isFit_27 n x2 x3 x4 x5 x6 x7 m = some (r, m') → va_P D vwCl (wsOf rLay rN cA A m) H → va_S (AW rN A) s.heap H locs → lv_has ls 11 [(0, .ref (A 0)), (2, .int x2), (3, .int x3), (4, .int x4), (5, .int x5), (6, .int x6), (7, .int x7)] → W p l e { frames := 1, cells := 0, slots := 0, locals := 25 } s m0 args below meth c H locs 0 0 (ZR below args s rLay rN D cA A (some (.int r)) m') (F0 m0 27 ls []) := by
  have hx := X.1
  have hb := X.2.1
  have hml := X.2.2.1
  have hown := X.2.2.2.1
  have hts := X.2.2.2.2.1
  have hF := X.2.2.2.2.2.2.2.2.1
  intro n
  induction n with
  | zero =>
    intro x2 x3 x4 x5 x6 x7 m H locs ls h hP hS hl
    exact absurd h (by rewrite [fX12_isFit_27]; exact fun q => by cases q)
  | succ n ih =>
    intro x2 x3 x4 x5 x6 x7 m H locs ls h hP hS hl
    rewrite [fX12_isFit_27] at h
    refine lv_iload hx hb dX12_isFit_27 (lv_at hl 6 rfl) ?_
    refine lv_aload_n hx hb dX12_isFit_29 rfl (lv_at hl 0 rfl) ?_
    refine r_get kc_12 0 X hP (by decide) (L_ref _) (by decide) rfl wt_5_172 dX12_isFit_30 ?_
    refine lv_bipush (v := 6) hx hb dX12_isFit_33 (by decide) ?_
    refine r_iald X hP (by decide) (Lr_1 _) (vpc (by decide)) ixc_6 dX12_isFit_35 ?_
    refine lv_icmp_ge (tgt := 145) hx hb dX12_isFit_36 (by decide) (fun c_7 => ?_) (fun c_7 => ?_)
    · have h := ifp c_7 h
      refine lv_iload hx hb dX12_isFit_145 (lv_at hl 5 rfl) ?_
      obtain ⟨hz_8, h⟩ := gb_some h
      exact r_zret X hz_8 hP hS dX12_isFit_147 h
    · have h := ifn c_7 h
      refine lv_bipush (v := 85) hx hb dX12_isFit_39 (by decide) ?_
      refine lv_iconst (v := 3) hx hb dX12_isFit_41 (by decide) ?_
      refine lv_iload hx hb dX12_isFit_42 (lv_at hl 6 rfl) ?_
      refine lv_imul hx hb dX12_isFit_44 ?_
      refine lv_iadd hx hb dX12_isFit_45 ?_
      obtain ⟨x8_9, ex_10, h⟩ := lt_some h
      refine lv_ren ex_10 ?_
      refine lv_istore (lv' := [(8, .int x8_9), (0, .ref (A 0)), (2, .int x2), (3, .int x3), (4, .int x4), (5, .int x5), (6, .int x6), (7, .int x7)]) hx hb dX12_isFit_46 hl (by decide) rfl (fun ls hl => ?_)
      refine lv_iconst (v := 0) hx hb dX12_isFit_48 (by decide) ?_
      refine lv_istore (lv' := [(9, .int 0), (8, .int x8_9), (0, .ref (A 0)), (2, .int x2), (3, .int x3), (4, .int x4), (5, .int x5), (6, .int x6), (7, .int x7)]) hx hb dX12_isFit_49 hl (by decide) rfl (fun ls hl => ?_)
      refine lv_iconst (v := 0) hx hb dX12_isFit_51 (by decide) ?_
      refine lv_istore (lv' := [(10, .int 0), (9, .int 0), (8, .int x8_9), (0, .ref (A 0)), (2, .int x2), (3, .int x3), (4, .int x4), (5, .int x5), (6, .int x6), (7, .int x7)]) hx hb dX12_isFit_52 hl (by decide) rfl (fun ls hl => ?_)
      exact tX12_isFit_54 hI   (fun x2 x3 x4 x5 x6 x7 m H locs ls h hP hS hl => ih x2 x3 x4 x5 x6 x7 m H locs ls  h hP hS hl) X FL x2 x3 x4 x5 x6 x7 x8_9 0 0 m _ _ _  h hP hS (lv_sub hl [3, 4, 5, 6, 7, 8, 9, 2, 1, 0] rfl)

def fX12_isFit (a1 : Int32) (a2 : Int32) (m : Mm) : Option (Int32 × Mm) := lt (a1 / 16) fun x3_1 => lt (((a1 / 4) - (a1 / 4) / 4 * 4) + 1) fun x4_3 => lt ((a1 - a1 / 4 * 4) + 1) fun x5_5 => (fX12_isFit_27  FL a2 x3_1 x4_3 x5_5 1 0 m)
set_option maxHeartbeats 4000000 in
set_option maxRecDepth 100000 in
theorem tX12_isFit {l : Launch} {D : va_G} {cA : Nat → ClassId} {A : Nat → Nat} (hI : InjA rN A) {a1 : Int32} {a2 : Int32} {m m' : Mm} {r : Int32} (h : fX12_isFit a1 a2 m = some (r, m')) : Met0 l yX12_isFit cX12_isFit 11 (some .boolean) { frames := 1, cells := 0, slots := 0, locals := 25 } rLay rN D cA A [.ref (A 0), .int a1, .int a2] m (some (.int r)) m' := by
  refine met0_of (by decide) (Nat.le_of_ble_eq_true rfl) hI ?_
  intro p e s m0 below meth c ls X hinit hP hS hl
  generalize ([.ref (A 0), .int a1, .int a2] : List Value).toArray = args at X ⊢
  have hl : lv_has ls 11 [(0, .ref (A 0)), (1, .int a1), (2, .int a2)] := hl
  have X : CX rLay rN D cA A p s m0 args meth c "BenchTowelsModel" cX12_isFit 11 (some .boolean) := X
  have hx := X.1
  have hb := X.2.1
  have hml := X.2.2.1
  have hown := X.2.2.2.1
  have hts := X.2.2.2.2.1
  have hF := X.2.2.2.2.2.2.2.2.1
  rewrite [fX12_isFit] at h
  refine lv_iload_n hx hb dX12_isFit_0 rfl (lv_at hl 1 rfl) ?_
  refine lv_bipush (v := 16) hx hb dX12_isFit_1 (by decide) ?_
  refine lv_idiv hx hb dX12_isFit_3 (by decide) ?_
  obtain ⟨x3_1, ex_2, h⟩ := lt_some h
  refine lv_ren ex_2 ?_
  refine lv_istore_n (lv' := [(3, .int x3_1), (0, .ref (A 0)), (1, .int a1), (2, .int a2)]) hx hb dX12_isFit_4 rfl hl (by decide) rfl (fun ls hl => ?_)
  refine lv_iload_n hx hb dX12_isFit_5 rfl (lv_at hl 2 rfl) ?_
  refine lv_iconst (v := 4) hx hb dX12_isFit_6 (by decide) ?_
  refine lv_idiv hx hb dX12_isFit_7 (by decide) ?_
  refine lv_iconst (v := 4) hx hb dX12_isFit_8 (by decide) ?_
  refine lv_irem hx hb dX12_isFit_9 (by decide) ?_
  refine lv_iconst (v := 1) hx hb dX12_isFit_10 (by decide) ?_
  refine lv_iadd hx hb dX12_isFit_11 ?_
  obtain ⟨x4_3, ex_4, h⟩ := lt_some h
  refine lv_ren ex_4 ?_
  refine lv_istore (lv' := [(4, .int x4_3), (3, .int x3_1), (0, .ref (A 0)), (1, .int a1), (2, .int a2)]) hx hb dX12_isFit_12 hl (by decide) rfl (fun ls hl => ?_)
  refine lv_iload_n hx hb dX12_isFit_14 rfl (lv_at hl 3 rfl) ?_
  refine lv_iconst (v := 4) hx hb dX12_isFit_15 (by decide) ?_
  refine lv_irem hx hb dX12_isFit_16 (by decide) ?_
  refine lv_iconst (v := 1) hx hb dX12_isFit_17 (by decide) ?_
  refine lv_iadd hx hb dX12_isFit_18 ?_
  obtain ⟨x5_5, ex_6, h⟩ := lt_some h
  refine lv_ren ex_6 ?_
  refine lv_istore (lv' := [(5, .int x5_5), (4, .int x4_3), (3, .int x3_1), (0, .ref (A 0)), (1, .int a1), (2, .int a2)]) hx hb dX12_isFit_19 hl (by decide) rfl (fun ls hl => ?_)
  refine lv_iconst (v := 1) hx hb dX12_isFit_21 (by decide) ?_
  refine lv_istore (lv' := [(6, .int 1), (5, .int x5_5), (4, .int x4_3), (3, .int x3_1), (0, .ref (A 0)), (1, .int a1), (2, .int a2)]) hx hb dX12_isFit_22 hl (by decide) rfl (fun ls hl => ?_)
  refine lv_iconst (v := 0) hx hb dX12_isFit_24 (by decide) ?_
  refine lv_istore (lv' := [(7, .int 0), (6, .int 1), (5, .int x5_5), (4, .int x4_3), (3, .int x3_1), (0, .ref (A 0)), (1, .int a1), (2, .int a2)]) hx hb dX12_isFit_25 hl (by decide) rfl (fun ls hl => ?_)
  exact tX12_isFit_27 hI    X FL a2 x3_1 x4_3 x5_5 1 0 m _ _ _  h hP hS (lv_sub hl [5, 7, 4, 3, 2, 1, 0] rfl)

def fX12_findsFits_45 (K13 : Int32 → Int32 → Mm → Option (Int32 × Mm)) (x1 : Int32) (x2 : Int32) (s0 : Int32) (m : Mm) : Option (Int32 × Mm) := lt (up m 0 24 s0) fun m_13 => lt (up m_13 0 23 ((m_13 0 23) + 1)) fun m_15 => lt ((x2 : Int32) + 1) fun x2_17 => (K13 x1 x2_17 m_15)
set_option maxHeartbeats 4000000 in
set_option maxRecDepth 100000 in
theorem tX12_findsFits_45 (hI : InjA rN A)  {r : Int32} {m' : Mm} {K13 : Int32 → Int32 → Mm → Option (Int32 × Mm)} (hK13 : ∀ (x1 : Int32) (x2 : Int32) (m : Mm) (H : Heap) (locs : List Loc) (ls : Array Slot), K13 x1 x2 m = some (r, m') → va_P D vwCl (wsOf rLay rN cA A m) H → va_S (AW rN A) s.heap H locs → lv_has ls 3 [(0, .ref (A 0)), (1, .int x1), (2, .int x2)] → W p l e { frames := 2, cells := 0, slots := 0, locals := 55 } s m0 args below meth c H locs 0 0 (ZR below args s rLay rN D cA A none m') (F0 m0 13 ls [])) (X : CX rLay rN D cA A p s m0 args meth c "BenchTowelsModel" cX12_findsFits 3 none) : ∀ (x1 : Int32) (x2 : Int32) (s0 : Int32) (m : Mm) (H : Heap) (locs : List Loc) (ls : Array Slot), fX12_findsFits_45 K13 x1 x2 s0 m = some (r, m') → va_P D vwCl (wsOf rLay rN cA A m) H → va_S (AW rN A) s.heap H locs → lv_has ls 3 [(0, .ref (A 0)), (1, .int x1), (2, .int x2)] → W p l e { frames := 2, cells := 0, slots := 0, locals := 55 } s m0 args below meth c H locs 0 0 (ZR below args s rLay rN D cA A none m') (F0 m0 45 ls [.int s0, .ref (A 0)]) := by
  have hx := X.1
  have hb := X.2.1
  have hml := X.2.2.1
  have hown := X.2.2.2.1
  have hts := X.2.2.2.2.1
  have hF := X.2.2.2.2.2.2.2.2.1
  intro x1 x2 s0 m H locs ls h hP hS hl
  rewrite [fX12_findsFits_45] at h
  obtain ⟨m_13, em_14, h⟩ := lt_some h
  refine r_put kc_12 24 X hP hS (by decide) (L_ref _) (L_ref _) (by decide) wt_5_196 rfl (by decide +kernel) (Nat.le_of_ble_eq_true rfl) dX12_findsFits_45 em_14 (fun H locs hP hS => ?_)
  refine lv_aload_n hx hb dX12_findsFits_48 rfl (lv_at hl 0 rfl) ?_
  refine lv_dup hx hb dX12_findsFits_49 rfl ?_
  refine r_get kc_12 23 X hP (by decide) (L_ref _) (by decide) rfl wt_5_195 dX12_findsFits_50 ?_
  refine lv_iconst (v := 1) hx hb dX12_findsFits_53 (by decide) ?_
  refine lv_iadd hx hb dX12_findsFits_54 ?_
  obtain ⟨m_15, em_16, h⟩ := lt_some h
  refine r_put kc_12 23 X hP hS (by decide) (L_ref _) (L_ref _) (by decide) wt_5_195 rfl (by decide +kernel) (Nat.le_of_ble_eq_true rfl) dX12_findsFits_55 em_16 (fun H locs hP hS => ?_)
  obtain ⟨x2_17, ex_18, h⟩ := lt_some h
  refine lv_iinc (v := x2_17) (lv' := [(2, .int x2_17), (0, .ref (A 0)), (1, .int x1)]) hx hb dX12_findsFits_58 hl (k := 2) rfl (by rw [ex_18]; rfl) (by decide) rfl (fun ls hl => ?_)
  refine lv_goto (tgt := 13) hx hb dX12_findsFits_61 (by decide) ?_
  exact hK13 x1 x2_17 m_15 _ _ _ h hP hS (lv_sub hl [1, 2, 0] rfl)

def fX12_findsFits_13  : Nat → Int32 → Int32 → Mm → Option (Int32 × Mm)
  | 0, _, _, _ => none
  | n + 1, x1, x2, m => (if (256 : Int32) ≤ x2 then some (0, m) else bd (fX12_isFit x2 x1 m) fun r_6 m_7 => (if r_6 = 0 then lt ((x2 : Int32) + 1) fun x2_10 => (fX12_findsFits_13 n x1 x2_10 m_7) else (if (m_7 0 23) = 0 then (fX12_findsFits_45 (fun x1 x2 m => fX12_findsFits_13 n x1 x2 m) x1 x2 x2 m_7) else (fX12_findsFits_45 (fun x1 x2 m => fX12_findsFits_13 n x1 x2 m) x1 x2 (m_7 0 24) m_7))))
set_option maxHeartbeats 4000000 in
set_option maxRecDepth 100000 in
theorem tX12_findsFits_13 (hI : InjA rN A)  {r : Int32} {m' : Mm} (X : CX rLay rN D cA A p s m0 args meth c "BenchTowelsModel" cX12_findsFits 3 none) : ∀ (n : Nat) (x1 : Int32) (x2 : Int32) (m : Mm) (H : Heap) (locs : List Loc) (ls : Array Slot), fX12_findsFits_13 n x1 x2 m = some (r, m') → va_P D vwCl (wsOf rLay rN cA A m) H → va_S (AW rN A) s.heap H locs → lv_has ls 3 [(0, .ref (A 0)), (1, .int x1), (2, .int x2)] → W p l e { frames := 2, cells := 0, slots := 0, locals := 55 } s m0 args below meth c H locs 0 0 (ZR below args s rLay rN D cA A none m') (F0 m0 13 ls []) := by
  have hx := X.1
  have hb := X.2.1
  have hml := X.2.2.1
  have hown := X.2.2.2.1
  have hts := X.2.2.2.2.1
  have hF := X.2.2.2.2.2.2.2.2.1
  intro n
  induction n with
  | zero =>
    intro x1 x2 m H locs ls h hP hS hl
    exact absurd h (by rewrite [fX12_findsFits_13]; exact fun q => by cases q)
  | succ n ih =>
    intro x1 x2 m H locs ls h hP hS hl
    rewrite [fX12_findsFits_13] at h
    refine lv_iload_n hx hb dX12_findsFits_13 rfl (lv_at hl 2 rfl) ?_
    refine lv_sipush (v := 256) hx hb dX12_findsFits_14 (by decide) ?_
    refine lv_icmp_ge (tgt := 64) hx hb dX12_findsFits_17 (by decide) (fun c_5 => ?_) (fun c_5 => ?_)
    · have h := ifp c_5 h
      exact r_vret X hP hS dX12_findsFits_64 h
    · have h := ifn c_5 h
      refine lv_aload_n hx hb dX12_findsFits_20 rfl (lv_at hl 0 rfl) ?_
      refine lv_iload_n hx hb dX12_findsFits_21 rfl (lv_at hl 2 rfl) ?_
      refine lv_iload_n hx hb dX12_findsFits_22 rfl (lv_at hl 1 rfl) ?_
      obtain ⟨r_6, m_7, hc_8, h⟩ := bd_some h
      refine c_V (rest := []) X hP hS (tX12_isFit hI  hc_8) (by decide) (L_ref _) rfl wt_7_145 wt_7_147 ws_5_4 wt_1_13 wt_7_148 ⟨rfl, hy_X12_isFit⟩ ⟨rfl, rfl⟩ ⟨Nat.le_of_ble_eq_true rfl, Nat.le_of_ble_eq_true rfl⟩ rfl hl.1 rfl (Nat.le_of_ble_eq_true rfl) dX12_findsFits_23 rfl (fun H locs hP hS => ?_)
      refine lv_if_eq (tgt := 58) hx hb dX12_findsFits_26 (by decide) (fun c_9 => ?_) (fun c_9 => ?_)
      · have h := ifp c_9 h
        obtain ⟨x2_10, ex_11, h⟩ := lt_some h
        refine lv_iinc (v := x2_10) (lv' := [(2, .int x2_10), (0, .ref (A 0)), (1, .int x1)]) hx hb dX12_findsFits_58 hl (k := 2) rfl (by rw [ex_11]; rfl) (by decide) rfl (fun ls hl => ?_)
        refine lv_goto (tgt := 13) hx hb dX12_findsFits_61 (by decide) ?_
        exact ih x1 x2_10 m_7 _ _ _  h hP hS (lv_sub hl [1, 2, 0] rfl)
      · have h := ifn c_9 h
        refine lv_aload_n hx hb dX12_findsFits_29 rfl (lv_at hl 0 rfl) ?_
        refine lv_aload_n hx hb dX12_findsFits_30 rfl (lv_at hl 0 rfl) ?_
        refine r_get kc_12 23 X hP (by decide) (L_ref _) (by decide) rfl wt_5_195 dX12_findsFits_31 ?_
        refine lv_if_ne (tgt := 41) hx hb dX12_findsFits_34 (by decide) (fun c_12 => ?_) (fun c_12 => ?_)
        · have h := ifn c_12 h
          refine lv_aload_n hx hb dX12_findsFits_41 rfl (lv_at hl 0 rfl) ?_
          refine r_get kc_12 24 X hP (by decide) (L_ref _) (by decide) rfl wt_5_196 dX12_findsFits_42 ?_
          exact tX12_findsFits_45 hI   (fun x1 x2 m H locs ls h hP hS hl => ih x1 x2 m H locs ls  h hP hS hl) X x1 x2 (m_7 0 24) m_7 _ _ _  h hP hS (lv_sub hl [0, 1, 2] rfl)
        · have h := ifp c_12 h
          refine lv_iload_n hx hb dX12_findsFits_37 rfl (lv_at hl 2 rfl) ?_
          refine lv_goto (tgt := 45) hx hb dX12_findsFits_38 (by decide) ?_
          exact tX12_findsFits_45 hI   (fun x1 x2 m H locs ls h hP hS hl => ih x1 x2 m H locs ls  h hP hS hl) X x1 x2 x2 m_7 _ _ _  h hP hS (lv_sub hl [0, 1, 2] rfl)

def fX12_findsFits (a1 : Int32) (m : Mm) : Option (Int32 × Mm) := lt (up m 0 23 0) fun m_1 => lt (up m_1 0 24 (-3)) fun m_3 => (fX12_findsFits_13  FL a1 0 m_3)
set_option maxHeartbeats 4000000 in
set_option maxRecDepth 100000 in
theorem tX12_findsFits {l : Launch} {D : va_G} {cA : Nat → ClassId} {A : Nat → Nat} (hI : InjA rN A) {a1 : Int32} {m m' : Mm} {r : Int32} (h : fX12_findsFits a1 m = some (r, m')) : Met0 l yX12_findsFits cX12_findsFits 3 none { frames := 2, cells := 0, slots := 0, locals := 55 } rLay rN D cA A [.ref (A 0), .int a1] m none m' := by
  refine met0_of (by decide) (Nat.le_of_ble_eq_true rfl) hI ?_
  intro p e s m0 below meth c ls X hinit hP hS hl
  generalize ([.ref (A 0), .int a1] : List Value).toArray = args at X ⊢
  have hl : lv_has ls 3 [(0, .ref (A 0)), (1, .int a1)] := hl
  have X : CX rLay rN D cA A p s m0 args meth c "BenchTowelsModel" cX12_findsFits 3 none := X
  have hx := X.1
  have hb := X.2.1
  have hml := X.2.2.1
  have hown := X.2.2.2.1
  have hts := X.2.2.2.2.1
  have hF := X.2.2.2.2.2.2.2.2.1
  rewrite [fX12_findsFits] at h
  refine lv_aload_n hx hb dX12_findsFits_0 rfl (lv_at hl 0 rfl) ?_
  refine lv_iconst (v := 0) hx hb dX12_findsFits_1 (by decide) ?_
  obtain ⟨m_1, em_2, h⟩ := lt_some h
  refine r_put kc_12 23 X hP hS (by decide) (L_ref _) (L_ref _) (by decide) wt_5_195 rfl (by decide +kernel) (Nat.le_of_ble_eq_true rfl) dX12_findsFits_2 em_2 (fun H locs hP hS => ?_)
  refine lv_aload_n hx hb dX12_findsFits_5 rfl (lv_at hl 0 rfl) ?_
  refine lv_bipush (v := (-3)) hx hb dX12_findsFits_6 (by decide) ?_
  obtain ⟨m_3, em_4, h⟩ := lt_some h
  refine r_put kc_12 24 X hP hS (by decide) (L_ref _) (L_ref _) (by decide) wt_5_196 rfl (by decide +kernel) (Nat.le_of_ble_eq_true rfl) dX12_findsFits_8 em_4 (fun H locs hP hS => ?_)
  refine lv_iconst (v := 0) hx hb dX12_findsFits_11 (by decide) ?_
  refine lv_istore_n (lv' := [(2, .int 0), (0, .ref (A 0)), (1, .int a1)]) hx hb dX12_findsFits_12 rfl hl (by decide) rfl (fun ls hl => ?_)
  exact tX12_findsFits_13 hI    X FL a1 0 m_3 _ _ _  h hP hS (lv_sub hl [1, 2, 0] rfl)

def fX12_span_30  (x1 : Int32) (m : Mm) : Option (Int32 × Mm) := (if x1 = 0 then some ((m 0 23), m) else some ((-3), m))
set_option maxHeartbeats 4000000 in
set_option maxRecDepth 100000 in
theorem tX12_span_30 (hI : InjA rN A)  {r : Int32} {m' : Mm} (X : CX rLay rN D cA A p s m0 args meth c "BenchTowelsModel" cX12_span 2 (some .int)) : ∀ (x1 : Int32) (m : Mm) (H : Heap) (locs : List Loc) (ls : Array Slot), fX12_span_30 x1 m = some (r, m') → va_P D vwCl (wsOf rLay rN cA A m) H → va_S (AW rN A) s.heap H locs → lv_has ls 2 [(0, .ref (A 0)), (1, .int x1)] → W p l e { frames := 3, cells := 0, slots := 0, locals := 77 } s m0 args below meth c H locs 0 0 (ZR below args s rLay rN D cA A (some (.int r)) m') (F0 m0 30 ls []) := by
  have hx := X.1
  have hb := X.2.1
  have hml := X.2.2.1
  have hown := X.2.2.2.1
  have hts := X.2.2.2.2.1
  have hF := X.2.2.2.2.2.2.2.2.1
  intro x1 m H locs ls h hP hS hl
  rewrite [fX12_span_30] at h
  refine lv_iload_n hx hb dX12_span_30 rfl (lv_at hl 1 rfl) ?_
  refine lv_if_ne (tgt := 41) hx hb dX12_span_31 (by decide) (fun c_9 => ?_) (fun c_9 => ?_)
  · have h := ifn c_9 h
    refine lv_bipush (v := (-3)) hx hb dX12_span_41 (by decide) ?_
    exact r_iret X hP hS dX12_span_43 h
  · have h := ifp c_9 h
    refine lv_aload_n hx hb dX12_span_34 rfl (lv_at hl 0 rfl) ?_
    refine r_get kc_12 23 X hP (by decide) (L_ref _) (by decide) rfl wt_5_195 dX12_span_35 ?_
    refine lv_goto (tgt := 43) hx hb dX12_span_38 (by decide) ?_
    exact r_iret X hP hS dX12_span_43 h

def fX12_span (a1 : Int32) (m : Mm) : Option (Int32 × Mm) := bd (fX12_isIn (Int32.toInt64 a1) (0 : Int64) (3 : Int64) m) fun r_1 m_2 => (if r_1 = 0 then some ((-1), m_2) else bd (fX12_findsFits ((-1) : Int32) m_2) fun r_5 m_6 => (if a1 = 0 then fX12_span_30  a1 m_6 else (if (m_6 0 23) = 0 then fX12_span_30  a1 m_6 else (if a1 = 1 then some (((m_6 0 24) / 16), m_6) else (if a1 = 2 then some (((((m_6 0 24) / 4) - ((m_6 0 24) / 4) / 4 * 4) + 1), m_6) else some ((((m_6 0 24) - (m_6 0 24) / 4 * 4) + 1), m_6))))))
set_option maxHeartbeats 4000000 in
set_option maxRecDepth 100000 in
theorem tX12_span {l : Launch} {D : va_G} {cA : Nat → ClassId} {A : Nat → Nat} (hI : InjA rN A) {a1 : Int32} {m m' : Mm} {r : Int32} (h : fX12_span a1 m = some (r, m')) : Met0 l yX12_span cX12_span 2 (some .int) { frames := 3, cells := 0, slots := 0, locals := 77 } rLay rN D cA A [.ref (A 0), .int a1] m (some (.int r)) m' := by
  refine met0_of (by decide) (Nat.le_of_ble_eq_true rfl) hI ?_
  intro p e s m0 below meth c ls X hinit hP hS hl
  generalize ([.ref (A 0), .int a1] : List Value).toArray = args at X ⊢
  have hl : lv_has ls 2 [(0, .ref (A 0)), (1, .int a1)] := hl
  have X : CX rLay rN D cA A p s m0 args meth c "BenchTowelsModel" cX12_span 2 (some .int) := X
  have hx := X.1
  have hb := X.2.1
  have hml := X.2.2.1
  have hown := X.2.2.2.1
  have hts := X.2.2.2.2.1
  have hF := X.2.2.2.2.2.2.2.2.1
  rewrite [fX12_span] at h
  refine lv_iload_n hx hb dX12_span_0 rfl (lv_at hl 1 rfl) ?_
  refine lv_i2l hx hb dX12_span_1 rfl ?_
  refine lv_lconst (v := 0) hx hb dX12_span_2 (by decide) ?_
  refine lv_ldc2 (v := 3) hx hb hown (hts _ wt_7_103) dX12_span_3 ?_
  obtain ⟨r_1, m_2, hc_3, h⟩ := bd_some h
  refine c_S (rest := []) X hP hS (tX12_isIn hI  hc_3) wt_6_55 wt_6_56 wt_1_13 wt_6_57 hy_X12_isIn ⟨rfl, rfl⟩ ⟨Nat.le_of_ble_eq_true rfl, Nat.le_of_ble_eq_true rfl⟩ rfl hl.1 rfl (Nat.le_of_ble_eq_true rfl) dX12_span_6 rfl (fun H locs hP hS => ?_)
  refine lv_if_ne (tgt := 14) hx hb dX12_span_9 (by decide) (fun c_4 => ?_) (fun c_4 => ?_)
  · have h := ifn c_4 h
    refine lv_aload_n hx hb dX12_span_14 rfl (lv_at hl 0 rfl) ?_
    refine lv_iconst (v := (-1)) hx hb dX12_span_15 (by decide) ?_
    obtain ⟨r_5, m_6, hc_7, h⟩ := bd_some h
    refine c_V (rest := []) X hP hS (tX12_findsFits hI  hc_7) (by decide) (L_ref _) rfl wt_7_141 wt_7_143 ws_5_3 wt_1_13 wt_7_144 ⟨rfl, hy_X12_findsFits⟩ ⟨rfl, rfl⟩ ⟨Nat.le_of_ble_eq_true rfl, Nat.le_of_ble_eq_true rfl⟩ rfl hl.1 rfl (Nat.le_of_ble_eq_true rfl) dX12_span_16 rfl (fun H locs hP hS => ?_)
    refine lv_iload_n hx hb dX12_span_19 rfl (lv_at hl 1 rfl) ?_
    refine lv_if_eq (tgt := 30) hx hb dX12_span_20 (by decide) (fun c_8 => ?_) (fun c_8 => ?_)
    · have h := ifp c_8 h
      exact tX12_span_30 hI    X a1 m_6 _ _ _  h hP hS (lv_sub hl [0, 1] rfl)
    · have h := ifn c_8 h
      refine lv_aload_n hx hb dX12_span_23 rfl (lv_at hl 0 rfl) ?_
      refine r_get kc_12 23 X hP (by decide) (L_ref _) (by decide) rfl wt_5_195 dX12_span_24 ?_
      refine lv_if_ne (tgt := 44) hx hb dX12_span_27 (by decide) (fun c_10 => ?_) (fun c_10 => ?_)
      · have h := ifn c_10 h
        refine lv_iload_n hx hb dX12_span_44 rfl (lv_at hl 1 rfl) ?_
        refine lv_iconst (v := 1) hx hb dX12_span_45 (by decide) ?_
        refine lv_icmp_ne (tgt := 59) hx hb dX12_span_46 (by decide) (fun c_11 => ?_) (fun c_11 => ?_)
        · have h := ifn c_11 h
          refine lv_iload_n hx hb dX12_span_59 rfl (lv_at hl 1 rfl) ?_
          refine lv_iconst (v := 2) hx hb dX12_span_60 (by decide) ?_
          refine lv_icmp_ne (tgt := 77) hx hb dX12_span_61 (by decide) (fun c_12 => ?_) (fun c_12 => ?_)
          · have h := ifn c_12 h
            refine lv_aload_n hx hb dX12_span_77 rfl (lv_at hl 0 rfl) ?_
            refine r_get kc_12 24 X hP (by decide) (L_ref _) (by decide) rfl wt_5_196 dX12_span_78 ?_
            refine lv_iconst (v := 4) hx hb dX12_span_81 (by decide) ?_
            refine lv_irem hx hb dX12_span_82 (by decide) ?_
            refine lv_iconst (v := 1) hx hb dX12_span_83 (by decide) ?_
            refine lv_iadd hx hb dX12_span_84 ?_
            exact r_iret X hP hS dX12_span_85 h
          · have h := ifp c_12 h
            refine lv_aload_n hx hb dX12_span_64 rfl (lv_at hl 0 rfl) ?_
            refine r_get kc_12 24 X hP (by decide) (L_ref _) (by decide) rfl wt_5_196 dX12_span_65 ?_
            refine lv_iconst (v := 4) hx hb dX12_span_68 (by decide) ?_
            refine lv_idiv hx hb dX12_span_69 (by decide) ?_
            refine lv_iconst (v := 4) hx hb dX12_span_70 (by decide) ?_
            refine lv_irem hx hb dX12_span_71 (by decide) ?_
            refine lv_iconst (v := 1) hx hb dX12_span_72 (by decide) ?_
            refine lv_iadd hx hb dX12_span_73 ?_
            refine lv_goto (tgt := 85) hx hb dX12_span_74 (by decide) ?_
            exact r_iret X hP hS dX12_span_85 h
        · have h := ifp c_11 h
          refine lv_aload_n hx hb dX12_span_49 rfl (lv_at hl 0 rfl) ?_
          refine r_get kc_12 24 X hP (by decide) (L_ref _) (by decide) rfl wt_5_196 dX12_span_50 ?_
          refine lv_bipush (v := 16) hx hb dX12_span_53 (by decide) ?_
          refine lv_idiv hx hb dX12_span_55 (by decide) ?_
          refine lv_goto (tgt := 85) hx hb dX12_span_56 (by decide) ?_
          exact r_iret X hP hS dX12_span_85 h
      · have h := ifp c_10 h
        exact tX12_span_30 hI    X a1 m_6 _ _ _  h hP hS (lv_sub hl [0, 1] rfl)
  · have h := ifp c_4 h
    refine lv_iconst (v := (-1)) hx hb dX12_span_12 (by decide) ?_
    exact r_iret X hP hS dX12_span_13 h

def fX12_liar_23  : Nat → Int32 → Int32 → Int32 → Mm → Option (Int32 × Mm)
  | 0, _, _, _, _ => none
  | n + 1, x1, x2, x3, m => (if ((m 1 6) : Int32) ≤ x3 then some (x1, m) else (if x2 = 0 then some (x1, m) else (if (0 : Int32) ≤ x1 then some (x1, m) else bd (fX12_findsFits x3 m) fun r_8 m_9 => (if (m_9 0 23) ≤ 0 then lt ((x3 : Int32) + 1) fun x3_12 => (fX12_liar_23 n (-3) x2 x3_12 m_9) else lt ((x3 : Int32) + 1) fun x3_14 => (fX12_liar_23 n x3 x2 x3_14 m_9)))))
set_option maxHeartbeats 4000000 in
set_option maxRecDepth 100000 in
theorem tX12_liar_23 (hI : InjA rN A)  {r : Int32} {m' : Mm} (X : CX rLay rN D cA A p s m0 args meth c "BenchTowelsModel" cX12_liar 4 (some .int)) : ∀ (n : Nat) (x1 : Int32) (x2 : Int32) (x3 : Int32) (m : Mm) (H : Heap) (locs : List Loc) (ls : Array Slot), fX12_liar_23 n x1 x2 x3 m = some (r, m') → va_P D vwCl (wsOf rLay rN cA A m) H → va_S (AW rN A) s.heap H locs → lv_has ls 4 [(0, .ref (A 0)), (1, .int x1), (2, .int x2), (3, .int x3)] → W p l e { frames := 3, cells := 0, slots := 0, locals := 77 } s m0 args below meth c H locs 0 0 (ZR below args s rLay rN D cA A (some (.int r)) m') (F0 m0 23 ls []) := by
  have hx := X.1
  have hb := X.2.1
  have hml := X.2.2.1
  have hown := X.2.2.2.1
  have hts := X.2.2.2.2.1
  have hF := X.2.2.2.2.2.2.2.2.1
  intro n
  induction n with
  | zero =>
    intro x1 x2 x3 m H locs ls h hP hS hl
    exact absurd h (by rewrite [fX12_liar_23]; exact fun q => by cases q)
  | succ n ih =>
    intro x1 x2 x3 m H locs ls h hP hS hl
    rewrite [fX12_liar_23] at h
    refine lv_iload_n hx hb dX12_liar_23 rfl (lv_at hl 3 rfl) ?_
    refine lv_aload_n hx hb dX12_liar_24 rfl (lv_at hl 0 rfl) ?_
    refine r_get kc_12 0 X hP (by decide) (L_ref _) (by decide) rfl wt_5_172 dX12_liar_25 ?_
    refine lv_bipush (v := 6) hx hb dX12_liar_28 (by decide) ?_
    refine r_iald X hP (by decide) (Lr_1 _) (vpc (by decide)) ixc_6 dX12_liar_30 ?_
    refine lv_icmp_ge (tgt := 67) hx hb dX12_liar_31 (by decide) (fun c_5 => ?_) (fun c_5 => ?_)
    · have h := ifp c_5 h
      refine lv_iload_n hx hb dX12_liar_67 rfl (lv_at hl 1 rfl) ?_
      exact r_iret X hP hS dX12_liar_68 h
    · have h := ifn c_5 h
      refine lv_iload_n hx hb dX12_liar_34 rfl (lv_at hl 2 rfl) ?_
      refine lv_if_eq (tgt := 67) hx hb dX12_liar_35 (by decide) (fun c_6 => ?_) (fun c_6 => ?_)
      · have h := ifp c_6 h
        refine lv_iload_n hx hb dX12_liar_67 rfl (lv_at hl 1 rfl) ?_
        exact r_iret X hP hS dX12_liar_68 h
      · have h := ifn c_6 h
        refine lv_iload_n hx hb dX12_liar_38 rfl (lv_at hl 1 rfl) ?_
        refine lv_if_ge (tgt := 67) hx hb dX12_liar_39 (by decide) (fun c_7 => ?_) (fun c_7 => ?_)
        · have h := ifp c_7 h
          refine lv_iload_n hx hb dX12_liar_67 rfl (lv_at hl 1 rfl) ?_
          exact r_iret X hP hS dX12_liar_68 h
        · have h := ifn c_7 h
          refine lv_aload_n hx hb dX12_liar_42 rfl (lv_at hl 0 rfl) ?_
          refine lv_iload_n hx hb dX12_liar_43 rfl (lv_at hl 3 rfl) ?_
          obtain ⟨r_8, m_9, hc_10, h⟩ := bd_some h
          refine c_V (rest := []) X hP hS (tX12_findsFits hI  hc_10) (by decide) (L_ref _) rfl wt_7_141 wt_7_143 ws_5_3 wt_1_13 wt_7_144 ⟨rfl, hy_X12_findsFits⟩ ⟨rfl, rfl⟩ ⟨Nat.le_of_ble_eq_true rfl, Nat.le_of_ble_eq_true rfl⟩ rfl hl.1 rfl (Nat.le_of_ble_eq_true rfl) dX12_liar_44 rfl (fun H locs hP hS => ?_)
          refine lv_aload_n hx hb dX12_liar_47 rfl (lv_at hl 0 rfl) ?_
          refine r_get kc_12 23 X hP (by decide) (L_ref _) (by decide) rfl wt_5_195 dX12_liar_48 ?_
          refine lv_if_le (tgt := 58) hx hb dX12_liar_51 (by decide) (fun c_11 => ?_) (fun c_11 => ?_)
          · have h := ifp c_11 h
            refine lv_bipush (v := (-3)) hx hb dX12_liar_58 (by decide) ?_
            refine lv_istore_n (lv' := [(1, .int (-3)), (0, .ref (A 0)), (2, .int x2), (3, .int x3)]) hx hb dX12_liar_60 rfl hl (by decide) rfl (fun ls hl => ?_)
            obtain ⟨x3_12, ex_13, h⟩ := lt_some h
            refine lv_iinc (v := x3_12) (lv' := [(3, .int x3_12), (1, .int (-3)), (0, .ref (A 0)), (2, .int x2)]) hx hb dX12_liar_61 hl (k := 3) rfl (by rw [ex_13]; rfl) (by decide) rfl (fun ls hl => ?_)
            refine lv_goto (tgt := 23) hx hb dX12_liar_64 (by decide) ?_
            exact ih (-3) x2 x3_12 m_9 _ _ _  h hP hS (lv_sub hl [2, 1, 3, 0] rfl)
          · have h := ifn c_11 h
            refine lv_iload_n hx hb dX12_liar_54 rfl (lv_at hl 3 rfl) ?_
            refine lv_goto (tgt := 60) hx hb dX12_liar_55 (by decide) ?_
            refine lv_istore_n (lv' := [(1, .int x3), (0, .ref (A 0)), (2, .int x2), (3, .int x3)]) hx hb dX12_liar_60 rfl hl (by decide) rfl (fun ls hl => ?_)
            obtain ⟨x3_14, ex_15, h⟩ := lt_some h
            refine lv_iinc (v := x3_14) (lv' := [(3, .int x3_14), (1, .int x3), (0, .ref (A 0)), (2, .int x2)]) hx hb dX12_liar_61 hl (k := 3) rfl (by rw [ex_15]; rfl) (by decide) rfl (fun ls hl => ?_)
            refine lv_goto (tgt := 23) hx hb dX12_liar_64 (by decide) ?_
            exact ih x3 x2 x3_14 m_9 _ _ _  h hP hS (lv_sub hl [2, 1, 3, 0] rfl)

def fX12_liar  (m : Mm) : Option (Int32 × Mm) := bd (fX12_findsFits ((-1) : Int32) m) fun r_1 m_2 => (if (m_2 0 23) = 0 then (fX12_liar_23  FL (-3) 1 0 m_2) else (fX12_liar_23  FL (-3) 0 0 m_2))
set_option maxHeartbeats 4000000 in
set_option maxRecDepth 100000 in
theorem tX12_liar {l : Launch} {D : va_G} {cA : Nat → ClassId} {A : Nat → Nat} (hI : InjA rN A) {m m' : Mm} {r : Int32} (h : fX12_liar m = some (r, m')) : Met0 l yX12_liar cX12_liar 4 (some .int) { frames := 3, cells := 0, slots := 0, locals := 77 } rLay rN D cA A [.ref (A 0)] m (some (.int r)) m' := by
  refine met0_of (by decide) (Nat.le_of_ble_eq_true rfl) hI ?_
  intro p e s m0 below meth c ls X hinit hP hS hl
  generalize ([.ref (A 0)] : List Value).toArray = args at X ⊢
  have hl : lv_has ls 4 [(0, .ref (A 0))] := hl
  have X : CX rLay rN D cA A p s m0 args meth c "BenchTowelsModel" cX12_liar 4 (some .int) := X
  have hx := X.1
  have hb := X.2.1
  have hml := X.2.2.1
  have hown := X.2.2.2.1
  have hts := X.2.2.2.2.1
  have hF := X.2.2.2.2.2.2.2.2.1
  rewrite [fX12_liar] at h
  refine lv_aload_n hx hb dX12_liar_0 rfl (lv_at hl 0 rfl) ?_
  refine lv_iconst (v := (-1)) hx hb dX12_liar_1 (by decide) ?_
  obtain ⟨r_1, m_2, hc_3, h⟩ := bd_some h
  refine c_V (rest := []) X hP hS (tX12_findsFits hI  hc_3) (by decide) (L_ref _) rfl wt_7_141 wt_7_143 ws_5_3 wt_1_13 wt_7_144 ⟨rfl, hy_X12_findsFits⟩ ⟨rfl, rfl⟩ ⟨Nat.le_of_ble_eq_true rfl, Nat.le_of_ble_eq_true rfl⟩ rfl hl.1 rfl (Nat.le_of_ble_eq_true rfl) dX12_liar_2 rfl (fun H locs hP hS => ?_)
  refine lv_bipush (v := (-3)) hx hb dX12_liar_5 (by decide) ?_
  refine lv_istore_n (lv' := [(1, .int (-3)), (0, .ref (A 0))]) hx hb dX12_liar_7 rfl hl (by decide) rfl (fun ls hl => ?_)
  refine lv_aload_n hx hb dX12_liar_8 rfl (lv_at hl 1 rfl) ?_
  refine r_get kc_12 23 X hP (by decide) (L_ref _) (by decide) rfl wt_5_195 dX12_liar_9 ?_
  refine lv_if_ne (tgt := 19) hx hb dX12_liar_12 (by decide) (fun c_4 => ?_) (fun c_4 => ?_)
  · have h := ifn c_4 h
    refine lv_iconst (v := 0) hx hb dX12_liar_19 (by decide) ?_
    refine lv_istore_n (lv' := [(2, .int 0), (1, .int (-3)), (0, .ref (A 0))]) hx hb dX12_liar_20 rfl hl (by decide) rfl (fun ls hl => ?_)
    refine lv_iconst (v := 0) hx hb dX12_liar_21 (by decide) ?_
    refine lv_istore_n (lv' := [(3, .int 0), (2, .int 0), (1, .int (-3)), (0, .ref (A 0))]) hx hb dX12_liar_22 rfl hl (by decide) rfl (fun ls hl => ?_)
    exact tX12_liar_23 hI    X FL (-3) 0 0 m_2 _ _ _  h hP hS (lv_sub hl [3, 2, 1, 0] rfl)
  · have h := ifp c_4 h
    refine lv_iconst (v := 1) hx hb dX12_liar_15 (by decide) ?_
    refine lv_goto (tgt := 20) hx hb dX12_liar_16 (by decide) ?_
    refine lv_istore_n (lv' := [(2, .int 1), (1, .int (-3)), (0, .ref (A 0))]) hx hb dX12_liar_20 rfl hl (by decide) rfl (fun ls hl => ?_)
    refine lv_iconst (v := 0) hx hb dX12_liar_21 (by decide) ?_
    refine lv_istore_n (lv' := [(3, .int 0), (2, .int 1), (1, .int (-3)), (0, .ref (A 0))]) hx hb dX12_liar_22 rfl hl (by decide) rfl (fun ls hl => ?_)
    exact tX12_liar_23 hI    X FL (-3) 1 0 m_2 _ _ _  h hP hS (lv_sub hl [3, 2, 1, 0] rfl)

def fX12_seed (a1 : Int32) (m : Mm) : Option (Int32 × Mm) := bd (fX12_becomes (4 : Int32) a1 m) fun r_1 m_2 => some (r_1, m_2)
set_option maxHeartbeats 4000000 in
set_option maxRecDepth 100000 in
theorem tX12_seed {l : Launch} {D : va_G} {cA : Nat → ClassId} {A : Nat → Nat} (hI : InjA rN A) {a1 : Int32} {m m' : Mm} {r : Int32} (h : fX12_seed a1 m = some (r, m')) : Met0 l yX12_seed cX12_seed 2 (some .int) { frames := 1, cells := 0, slots := 0, locals := 23 } rLay rN D cA A [.ref (A 0), .int a1] m (some (.int r)) m' := by
  refine met0_of (by decide) (Nat.le_of_ble_eq_true rfl) hI ?_
  intro p e s m0 below meth c ls X hinit hP hS hl
  generalize ([.ref (A 0), .int a1] : List Value).toArray = args at X ⊢
  have hl : lv_has ls 2 [(0, .ref (A 0)), (1, .int a1)] := hl
  have X : CX rLay rN D cA A p s m0 args meth c "BenchTowelsModel" cX12_seed 2 (some .int) := X
  have hx := X.1
  have hb := X.2.1
  have hml := X.2.2.1
  have hown := X.2.2.2.1
  have hts := X.2.2.2.2.1
  have hF := X.2.2.2.2.2.2.2.2.1
  rewrite [fX12_seed] at h
  refine lv_aload_n hx hb dX12_seed_0 rfl (lv_at hl 0 rfl) ?_
  refine lv_iconst (v := 4) hx hb dX12_seed_1 (by decide) ?_
  refine lv_iload_n hx hb dX12_seed_2 rfl (lv_at hl 1 rfl) ?_
  obtain ⟨r_1, m_2, hc_3, h⟩ := bd_some h
  refine c_V (rest := []) X hP hS (tX12_becomes hI  hc_3) (by decide) (L_ref _) rfl wt_6_113 wt_6_115 ws_3_1 wt_1_13 wt_6_116 ⟨rfl, hy_X12_becomes⟩ ⟨rfl, rfl⟩ ⟨Nat.le_of_ble_eq_true rfl, Nat.le_of_ble_eq_true rfl⟩ rfl hl.1 rfl (Nat.le_of_ble_eq_true rfl) dX12_seed_3 rfl (fun H locs hP hS => ?_)
  exact r_iret X hP hS dX12_seed_6 h

def fX12_goesByLot  (m : Mm) : Option (Int32 × Mm) := lt (up m 1 4 (((m 1 4) * 1103515245) + 12345)) fun m_1 => gz ((m_1 1 0) + 1) (bd (fX12_goesWith (((Int32.toUInt32 (m_1 1 4) >>> (Int32.toUInt32 16 &&& Int32.toUInt32 31)).toInt32) - ((Int32.toUInt32 (m_1 1 4) >>> (Int32.toUInt32 16 &&& Int32.toUInt32 31)).toInt32) / ((m_1 1 0) + 1) * ((m_1 1 0) + 1)) m_1) fun r_4 m_5 => some (r_4, m_5))
set_option maxHeartbeats 4000000 in
set_option maxRecDepth 100000 in
theorem tX12_goesByLot {l : Launch} {D : va_G} {cA : Nat → ClassId} {A : Nat → Nat} (hI : InjA rN A) {m m' : Mm} {r : Int32} (h : fX12_goesByLot m = some (r, m')) : Met0 l yX12_goesByLot cX12_goesByLot 1 (some .int) { frames := 5, cells := 0, slots := 0, locals := 120 } rLay rN D cA A [.ref (A 0)] m (some (.int r)) m' := by
  refine met0_of (by decide) (Nat.le_of_ble_eq_true rfl) hI ?_
  intro p e s m0 below meth c ls X hinit hP hS hl
  generalize ([.ref (A 0)] : List Value).toArray = args at X ⊢
  have hl : lv_has ls 1 [(0, .ref (A 0))] := hl
  have X : CX rLay rN D cA A p s m0 args meth c "BenchTowelsModel" cX12_goesByLot 1 (some .int) := X
  have hx := X.1
  have hb := X.2.1
  have hml := X.2.2.1
  have hown := X.2.2.2.1
  have hts := X.2.2.2.2.1
  have hF := X.2.2.2.2.2.2.2.2.1
  rewrite [fX12_goesByLot] at h
  refine lv_aload_n hx hb dX12_goesByLot_0 rfl (lv_at hl 0 rfl) ?_
  refine r_get kc_12 0 X hP (by decide) (L_ref _) (by decide) rfl wt_5_172 dX12_goesByLot_1 ?_
  refine lv_iconst (v := 4) hx hb dX12_goesByLot_4 (by decide) ?_
  refine lv_aload_n hx hb dX12_goesByLot_5 rfl (lv_at hl 0 rfl) ?_
  refine r_get kc_12 0 X hP (by decide) (L_ref _) (by decide) rfl wt_5_172 dX12_goesByLot_6 ?_
  refine lv_iconst (v := 4) hx hb dX12_goesByLot_9 (by decide) ?_
  refine r_iald X hP (by decide) (Lr_1 _) (vpc (by decide)) ixc_4 dX12_goesByLot_10 ?_
  refine lv_ldcw (v := 1103515245) hx hb hown (hts _ wt_7_165) dX12_goesByLot_11 ?_
  refine lv_imul hx hb dX12_goesByLot_14 ?_
  refine lv_sipush (v := 12345) hx hb dX12_goesByLot_15 (by decide) ?_
  refine lv_iadd hx hb dX12_goesByLot_18 ?_
  obtain ⟨m_1, em_2, h⟩ := lt_some h
  refine r_iast X hP hS (by decide) Lr_1 (vpc (by decide)) ixc_4 dX12_goesByLot_19 em_2 (fun H locs hP hS => ?_)
  refine lv_aload_n hx hb dX12_goesByLot_20 rfl (lv_at hl 0 rfl) ?_
  refine lv_aload_n hx hb dX12_goesByLot_21 rfl (lv_at hl 0 rfl) ?_
  refine r_get kc_12 0 X hP (by decide) (L_ref _) (by decide) rfl wt_5_172 dX12_goesByLot_22 ?_
  refine lv_iconst (v := 4) hx hb dX12_goesByLot_25 (by decide) ?_
  refine r_iald X hP (by decide) (Lr_1 _) (vpc (by decide)) ixc_4 dX12_goesByLot_26 ?_
  refine lv_bipush (v := 16) hx hb dX12_goesByLot_27 (by decide) ?_
  refine lv_iushr hx hb dX12_goesByLot_29 rfl ?_
  refine lv_aload_n hx hb dX12_goesByLot_30 rfl (lv_at hl 0 rfl) ?_
  refine r_get kc_12 0 X hP (by decide) (L_ref _) (by decide) rfl wt_5_172 dX12_goesByLot_31 ?_
  refine lv_iconst (v := 0) hx hb dX12_goesByLot_34 (by decide) ?_
  refine r_iald X hP (by decide) (Lr_1 _) (vpc (by decide)) ixc_0 dX12_goesByLot_35 ?_
  refine lv_iconst (v := 1) hx hb dX12_goesByLot_36 (by decide) ?_
  refine lv_iadd hx hb dX12_goesByLot_37 ?_
  obtain ⟨hz_3, h⟩ := gz_some h
  refine lv_irem hx hb dX12_goesByLot_38 hz_3 ?_
  obtain ⟨r_4, m_5, hc_6, h⟩ := bd_some h
  refine c_V (rest := []) X hP hS (tX12_goesWith hI  hc_6) (by decide) (L_ref _) rfl wt_7_6 wt_7_8 ws_4_6 wt_1_13 wt_7_9 ⟨rfl, hy_X12_goesWith⟩ ⟨rfl, rfl⟩ ⟨Nat.le_of_ble_eq_true rfl, Nat.le_of_ble_eq_true rfl⟩ rfl hl.1 rfl (Nat.le_of_ble_eq_true rfl) dX12_goesByLot_39 rfl (fun H locs hP hS => ?_)
  exact r_iret X hP hS dX12_goesByLot_42 h

def fX12_lot  (m : Mm) : Option (Int32 × Mm) := bd (fX12_isOver m) fun r_1 m_2 => (if r_1 = 0 then bd (fX12_goesByLot m_2) fun r_5 m_6 => some (r_5, m_6) else some ((-4), m_2))
set_option maxHeartbeats 4000000 in
set_option maxRecDepth 100000 in
theorem tX12_lot {l : Launch} {D : va_G} {cA : Nat → ClassId} {A : Nat → Nat} (hI : InjA rN A) {m m' : Mm} {r : Int32} (h : fX12_lot m = some (r, m')) : Met0 l yX12_lot cX12_lot 1 (some .int) { frames := 6, cells := 0, slots := 0, locals := 140 } rLay rN D cA A [.ref (A 0)] m (some (.int r)) m' := by
  refine met0_of (by decide) (Nat.le_of_ble_eq_true rfl) hI ?_
  intro p e s m0 below meth c ls X hinit hP hS hl
  generalize ([.ref (A 0)] : List Value).toArray = args at X ⊢
  have hl : lv_has ls 1 [(0, .ref (A 0))] := hl
  have X : CX rLay rN D cA A p s m0 args meth c "BenchTowelsModel" cX12_lot 1 (some .int) := X
  have hx := X.1
  have hb := X.2.1
  have hml := X.2.2.1
  have hown := X.2.2.2.1
  have hts := X.2.2.2.2.1
  have hF := X.2.2.2.2.2.2.2.2.1
  rewrite [fX12_lot] at h
  refine lv_aload_n hx hb dX12_lot_0 rfl (lv_at hl 0 rfl) ?_
  obtain ⟨r_1, m_2, hc_3, h⟩ := bd_some h
  refine c_V (rest := []) X hP hS (tX12_isOver hI  hc_3) (by decide) (L_ref _) rfl wt_6_147 wt_6_149 ws_3_2 wt_1_13 wt_6_150 ⟨rfl, hy_X12_isOver⟩ ⟨rfl, rfl⟩ ⟨Nat.le_of_ble_eq_true rfl, Nat.le_of_ble_eq_true rfl⟩ rfl hl.1 rfl (Nat.le_of_ble_eq_true rfl) dX12_lot_1 rfl (fun H locs hP hS => ?_)
  refine lv_if_eq (tgt := 12) hx hb dX12_lot_4 (by decide) (fun c_4 => ?_) (fun c_4 => ?_)
  · have h := ifp c_4 h
    refine lv_aload_n hx hb dX12_lot_12 rfl (lv_at hl 0 rfl) ?_
    obtain ⟨r_5, m_6, hc_7, h⟩ := bd_some h
    refine c_V (rest := []) X hP hS (tX12_goesByLot hI  hc_7) (by decide) (L_ref _) rfl wt_7_161 wt_7_163 ws_5_5 wt_1_13 wt_7_164 ⟨rfl, hy_X12_goesByLot⟩ ⟨rfl, rfl⟩ ⟨Nat.le_of_ble_eq_true rfl, Nat.le_of_ble_eq_true rfl⟩ rfl hl.1 rfl (Nat.le_of_ble_eq_true rfl) dX12_lot_13 rfl (fun H locs hP hS => ?_)
    exact r_iret X hP hS dX12_lot_16 h
  · have h := ifn c_4 h
    refine lv_bipush (v := (-4)) hx hb dX12_lot_7 (by decide) ?_
    refine lv_goto (tgt := 16) hx hb dX12_lot_9 (by decide) ?_
    exact r_iret X hP hS dX12_lot_16 h

end
