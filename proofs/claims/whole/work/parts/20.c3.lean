-- the landed class's methods walked, by program (wip/whole/gen)
section
variable {p : Program} {l : Launch} {e : Env} {s : State} {m0 : MethodId} {args : Array Value} {below : List Frame} {meth : Method} {c : Code} {D : va_G} {cA : Nat → ClassId} {A : Nat → Nat}
def fX11_busiest_15  : Nat → Int32 → Int32 → Int32 → Mm → Option (Int32 × Mm)
  | 0, _, _, _, _ => none
  | n + 1, x1, x2, x3, m => (if (16 : Int32) ≤ x3 then (if x1 = 0 then some (x2, m) else bd (fX1_takenIn 0 x2 m) fun r_5 m_6 => some (r_5, m_6)) else bd (fX1_takenIn 0 x3 m) fun r_8 m_9 => bd (fX1_takenIn 0 x2 m_9) fun r_11 m_12 => (if r_8 ≤ r_11 then lt ((x3 : Int32) + 1) fun x3_15 => (fX11_busiest_15 n x1 x2 x3_15 m_12) else lt ((x3 : Int32) + 1) fun x3_17 => (fX11_busiest_15 n x1 x3 x3_17 m_12)))
set_option maxHeartbeats 4000000 in
set_option maxRecDepth 100000 in
theorem tX11_busiest_15 (hI : InjA cN A)  {r : Int32} {m' : Mm} (X : CX cLay cN D cA A p s m0 args meth c "BenchTowels" cX11_busiest 4 (some .int)) : ∀ (n : Nat) (x1 : Int32) (x2 : Int32) (x3 : Int32) (m : Mm) (H : Heap) (locs : List Loc) (ls : Array Slot), fX11_busiest_15 n x1 x2 x3 m = some (r, m') → va_P D vwCl (wsOf cLay cN cA A m) H → va_S (AW cN A) s.heap H locs → lv_has ls 4 [(0, .ref (A 0)), (1, .int x1), (2, .int x2), (3, .int x3)] → W p l e { frames := 1, cells := 0, slots := 0, locals := 23 } s m0 args below meth c H locs 0 0 (ZR below args s cLay cN D cA A (some (.int r)) m') (F0 m0 15 ls []) := by
  have hx := X.1
  have hb := X.2.1
  have hml := X.2.2.1
  have hown := X.2.2.2.1
  have hts := X.2.2.2.2.1
  have hF := X.2.2.2.2.2.2.2.2.1
  intro n
  induction n with
  | zero =>
    intro x1 x2 x3 m H locs ls h hP hS hl
    exact absurd h (by rewrite [fX11_busiest_15]; exact fun q => by cases q)
  | succ n ih =>
    intro x1 x2 x3 m H locs ls h hP hS hl
    rewrite [fX11_busiest_15] at h
    refine lv_iload_n hx hb dX11_busiest_15 rfl (lv_at hl 3 rfl) ?_
    refine lv_bipush (v := 16) hx hb dX11_busiest_16 (by decide) ?_
    refine lv_icmp_ge (tgt := 48) hx hb dX11_busiest_18 (by decide) (fun c_3 => ?_) (fun c_3 => ?_)
    · have h := ifp c_3 h
      refine lv_iload_n hx hb dX11_busiest_48 rfl (lv_at hl 1 rfl) ?_
      refine lv_if_ne (tgt := 56) hx hb dX11_busiest_49 (by decide) (fun c_4 => ?_) (fun c_4 => ?_)
      · have h := ifn c_4 h
        refine lv_aload_n hx hb dX11_busiest_56 rfl (lv_at hl 0 rfl) ?_
        refine r_get kc_11 7 X hP (by decide) (L_bt _) (by decide) rfl wt_2_102 dX11_busiest_57 ?_
        refine lv_iload_n hx hb dX11_busiest_60 rfl (lv_at hl 2 rfl) ?_
        obtain ⟨r_5, m_6, hc_7, h⟩ := bd_some h
        refine c_V (rest := []) X hP hS (tX1_takenIn hI (by decide) hc_7) (lt_g (by decide) (by decide)) (L_gym (by decide) _) rfl wt_4_87 wt_4_88 wt_4_89 wt_1_10 wt_4_90 ⟨rfl, hy_X1_takenIn⟩ ⟨rfl, rfl⟩ ⟨Nat.le_of_ble_eq_true rfl, Nat.le_of_ble_eq_true rfl⟩ rfl hl.1 rfl (Nat.le_of_ble_eq_true rfl) dX11_busiest_61 rfl (fun H locs hP hS => ?_)
        exact r_iret X hP hS dX11_busiest_64 h
      · have h := ifp c_4 h
        refine lv_iload_n hx hb dX11_busiest_52 rfl (lv_at hl 2 rfl) ?_
        refine lv_goto (tgt := 64) hx hb dX11_busiest_53 (by decide) ?_
        exact r_iret X hP hS dX11_busiest_64 h
    · have h := ifn c_3 h
      refine lv_aload_n hx hb dX11_busiest_21 rfl (lv_at hl 0 rfl) ?_
      refine r_get kc_11 7 X hP (by decide) (L_bt _) (by decide) rfl wt_2_102 dX11_busiest_22 ?_
      refine lv_iload_n hx hb dX11_busiest_25 rfl (lv_at hl 3 rfl) ?_
      obtain ⟨r_8, m_9, hc_10, h⟩ := bd_some h
      refine c_V (rest := []) X hP hS (tX1_takenIn hI (by decide) hc_10) (lt_g (by decide) (by decide)) (L_gym (by decide) _) rfl wt_4_87 wt_4_88 wt_4_89 wt_1_10 wt_4_90 ⟨rfl, hy_X1_takenIn⟩ ⟨rfl, rfl⟩ ⟨Nat.le_of_ble_eq_true rfl, Nat.le_of_ble_eq_true rfl⟩ rfl hl.1 rfl (Nat.le_of_ble_eq_true rfl) dX11_busiest_26 rfl (fun H locs hP hS => ?_)
      refine lv_aload_n hx hb dX11_busiest_29 rfl (lv_at hl 0 rfl) ?_
      refine r_get kc_11 7 X hP (by decide) (L_bt _) (by decide) rfl wt_2_102 dX11_busiest_30 ?_
      refine lv_iload_n hx hb dX11_busiest_33 rfl (lv_at hl 2 rfl) ?_
      obtain ⟨r_11, m_12, hc_13, h⟩ := bd_some h
      refine c_V (rest := [.int r_8]) X hP hS (tX1_takenIn hI (by decide) hc_13) (lt_g (by decide) (by decide)) (L_gym (by decide) _) rfl wt_4_87 wt_4_88 wt_4_89 wt_1_10 wt_4_90 ⟨rfl, hy_X1_takenIn⟩ ⟨rfl, rfl⟩ ⟨Nat.le_of_ble_eq_true rfl, Nat.le_of_ble_eq_true rfl⟩ rfl hl.1 rfl (Nat.le_of_ble_eq_true rfl) dX11_busiest_34 rfl (fun H locs hP hS => ?_)
      refine lv_icmp_le (tgt := 42) hx hb dX11_busiest_37 (by decide) (fun c_14 => ?_) (fun c_14 => ?_)
      · have h := ifp c_14 h
        obtain ⟨x3_15, ex_16, h⟩ := lt_some h
        refine lv_iinc (v := x3_15) (lv' := [(3, .int x3_15), (0, .ref (A 0)), (1, .int x1), (2, .int x2)]) hx hb dX11_busiest_42 hl (k := 3) rfl (by rw [ex_16]; rfl) (by decide) rfl (fun ls hl => ?_)
        refine lv_goto (tgt := 15) hx hb dX11_busiest_45 (by decide) ?_
        exact ih x1 x2 x3_15 m_12 _ _ _  h hP hS (lv_sub hl [1, 2, 3, 0] rfl)
      · have h := ifn c_14 h
        refine lv_iload_n hx hb dX11_busiest_40 rfl (lv_at hl 3 rfl) ?_
        refine lv_istore_n (lv' := [(2, .int x3), (0, .ref (A 0)), (1, .int x1), (3, .int x3)]) hx hb dX11_busiest_41 rfl hl (by decide) rfl (fun ls hl => ?_)
        obtain ⟨x3_17, ex_18, h⟩ := lt_some h
        refine lv_iinc (v := x3_17) (lv' := [(3, .int x3_17), (2, .int x3), (0, .ref (A 0)), (1, .int x1)]) hx hb dX11_busiest_42 hl (k := 3) rfl (by rw [ex_18]; rfl) (by decide) rfl (fun ls hl => ?_)
        refine lv_goto (tgt := 15) hx hb dX11_busiest_45 (by decide) ?_
        exact ih x1 x3 x3_17 m_12 _ _ _  h hP hS (lv_sub hl [2, 3, 1, 0] rfl)

def fX11_busiest (a1 : Int32) (m : Mm) : Option (Int32 × Mm) := (if a1 < 0 then some ((-1), m) else (if a1 ≤ 1 then (fX11_busiest_15  FL a1 0 1 m) else some ((-1), m)))
set_option maxHeartbeats 4000000 in
set_option maxRecDepth 100000 in
theorem tX11_busiest {l : Launch} {D : va_G} {cA : Nat → ClassId} {A : Nat → Nat} (hI : InjA cN A) {a1 : Int32} {m m' : Mm} {r : Int32} (h : fX11_busiest a1 m = some (r, m')) : Met0 l yX11_busiest cX11_busiest 4 (some .int) { frames := 1, cells := 0, slots := 0, locals := 23 } cLay cN D cA A [.ref (A 0), .int a1] m (some (.int r)) m' := by
  refine met0_of (by decide) (Nat.le_of_ble_eq_true rfl) hI ?_
  intro p e s m0 below meth c ls X hinit hP hS hl
  generalize ([.ref (A 0), .int a1] : List Value).toArray = args at X ⊢
  have hl : lv_has ls 4 [(0, .ref (A 0)), (1, .int a1)] := hl
  have X : CX cLay cN D cA A p s m0 args meth c "BenchTowels" cX11_busiest 4 (some .int) := X
  have hx := X.1
  have hb := X.2.1
  have hml := X.2.2.1
  have hown := X.2.2.2.1
  have hts := X.2.2.2.2.1
  have hF := X.2.2.2.2.2.2.2.2.1
  rewrite [fX11_busiest] at h
  refine lv_iload_n hx hb dX11_busiest_0 rfl (lv_at hl 1 rfl) ?_
  refine lv_if_lt (tgt := 9) hx hb dX11_busiest_1 (by decide) (fun c_1 => ?_) (fun c_1 => ?_)
  · have h := ifp c_1 h
    refine lv_iconst (v := (-1)) hx hb dX11_busiest_9 (by decide) ?_
    exact r_iret X hP hS dX11_busiest_10 h
  · have h := ifn c_1 h
    refine lv_iload_n hx hb dX11_busiest_4 rfl (lv_at hl 1 rfl) ?_
    refine lv_iconst (v := 1) hx hb dX11_busiest_5 (by decide) ?_
    refine lv_icmp_le (tgt := 11) hx hb dX11_busiest_6 (by decide) (fun c_2 => ?_) (fun c_2 => ?_)
    · have h := ifp c_2 h
      refine lv_iconst (v := 0) hx hb dX11_busiest_11 (by decide) ?_
      refine lv_istore_n (lv' := [(2, .int 0), (0, .ref (A 0)), (1, .int a1)]) hx hb dX11_busiest_12 rfl hl (by decide) rfl (fun ls hl => ?_)
      refine lv_iconst (v := 1) hx hb dX11_busiest_13 (by decide) ?_
      refine lv_istore_n (lv' := [(3, .int 1), (2, .int 0), (0, .ref (A 0)), (1, .int a1)]) hx hb dX11_busiest_14 rfl hl (by decide) rfl (fun ls hl => ?_)
      exact tX11_busiest_15 hI    X FL a1 0 1 m _ _ _  h hP hS (lv_sub hl [2, 3, 1, 0] rfl)
    · have h := ifn c_2 h
      refine lv_iconst (v := (-1)) hx hb dX11_busiest_9 (by decide) ?_
      exact r_iret X hP hS dX11_busiest_10 h

def fX11_best (a1 : Int32) (m : Mm) : Option (Int32 × Mm) := (if a1 < 0 then some ((-1), m) else (if a1 ≤ 4 then bd (fX7_search 0 a1 (0 : Int32) m) fun r_3 m_4 => some ((m_4 64 6), m_4) else some ((-1), m)))
set_option maxHeartbeats 4000000 in
set_option maxRecDepth 100000 in
theorem tX11_best {l : Launch} {D : va_G} {cA : Nat → ClassId} {A : Nat → Nat} (hI : InjA cN A) {a1 : Int32} {m m' : Mm} {r : Int32} (h : fX11_best a1 m = some (r, m')) : Met0 l yX11_best cX11_best 2 (some .int) { frames := 32, cells := 0, slots := 0, locals := 771 } cLay cN D cA A [.ref (A 0), .int a1] m (some (.int r)) m' := by
  refine met0_of (by decide) (Nat.le_of_ble_eq_true rfl) hI ?_
  intro p e s m0 below meth c ls X hinit hP hS hl
  generalize ([.ref (A 0), .int a1] : List Value).toArray = args at X ⊢
  have hl : lv_has ls 2 [(0, .ref (A 0)), (1, .int a1)] := hl
  have X : CX cLay cN D cA A p s m0 args meth c "BenchTowels" cX11_best 2 (some .int) := X
  have hx := X.1
  have hb := X.2.1
  have hml := X.2.2.1
  have hown := X.2.2.2.1
  have hts := X.2.2.2.2.1
  have hF := X.2.2.2.2.2.2.2.2.1
  rewrite [fX11_best] at h
  refine lv_iload_n hx hb dX11_best_0 rfl (lv_at hl 1 rfl) ?_
  refine lv_if_lt (tgt := 9) hx hb dX11_best_1 (by decide) (fun c_1 => ?_) (fun c_1 => ?_)
  · have h := ifp c_1 h
    refine lv_iconst (v := (-1)) hx hb dX11_best_9 (by decide) ?_
    exact r_iret X hP hS dX11_best_10 h
  · have h := ifn c_1 h
    refine lv_iload_n hx hb dX11_best_4 rfl (lv_at hl 1 rfl) ?_
    refine lv_iconst (v := 4) hx hb dX11_best_5 (by decide) ?_
    refine lv_icmp_le (tgt := 11) hx hb dX11_best_6 (by decide) (fun c_2 => ?_) (fun c_2 => ?_)
    · have h := ifp c_2 h
      refine lv_aload_n hx hb dX11_best_11 rfl (lv_at hl 0 rfl) ?_
      refine r_get kc_11 10 X hP (by decide) (L_bt _) (by decide) rfl wt_2_105 dX11_best_12 ?_
      refine lv_aload_n hx hb dX11_best_15 rfl (lv_at hl 0 rfl) ?_
      refine r_get kc_11 7 X hP (by decide) (L_bt _) (by decide) rfl wt_2_102 dX11_best_16 ?_
      refine lv_iload_n hx hb dX11_best_19 rfl (lv_at hl 1 rfl) ?_
      refine lv_iconst (v := 0) hx hb dX11_best_20 (by decide) ?_
      obtain ⟨r_3, m_4, hc_5, h⟩ := bd_some h
      refine c_V (rest := []) X hP hS (tX7_search hI (by decide) hc_5) (by decide) (L_plans _) rfl wt_4_95 wt_4_96 wt_4_97 wt_1_11 wt_4_98 ⟨rfl, hy_X7_search⟩ ⟨rfl, rfl⟩ ⟨Nat.le_of_ble_eq_true rfl, Nat.le_of_ble_eq_true rfl⟩ rfl hl.1 rfl (Nat.le_of_ble_eq_true rfl) dX11_best_21 rfl (fun H locs hP hS => ?_)
      refine lv_aload_n hx hb dX11_best_24 rfl (lv_at hl 0 rfl) ?_
      refine r_get kc_11 10 X hP (by decide) (L_bt _) (by decide) rfl wt_2_105 dX11_best_25 ?_
      refine r_get kc_7 6 X hP (by decide) (L_plans _) (by decide) rfl wt_2_2 dX11_best_28 ?_
      exact r_iret X hP hS dX11_best_31 h
    · have h := ifn c_2 h
      refine lv_iconst (v := (-1)) hx hb dX11_best_9 (by decide) ?_
      exact r_iret X hP hS dX11_best_10 h

def fX11_ith (a1 : Int32) (a2 : Int32) (m : Mm) : Option (Int32 × Mm) := (if a1 < 0 then some ((-1), m) else (if (4 : Int32) < a1 then some ((-1), m) else (if a2 < 0 then some ((-1), m) else (if a2 < 4 then bd (fX7_search 0 a1 (0 : Int32) m) fun r_5 m_6 => (if ((m_6 64 5) : Int32) ≤ a2 then some ((-3), m_6) else gx a2 4 (some ((m_6 67 (ix a2)), m_6))) else some ((-1), m)))))
set_option maxHeartbeats 4000000 in
set_option maxRecDepth 100000 in
theorem tX11_ith {l : Launch} {D : va_G} {cA : Nat → ClassId} {A : Nat → Nat} (hI : InjA cN A) {a1 : Int32} {a2 : Int32} {m m' : Mm} {r : Int32} (h : fX11_ith a1 a2 m = some (r, m')) : Met0 l yX11_ith cX11_ith 3 (some .int) { frames := 32, cells := 0, slots := 0, locals := 771 } cLay cN D cA A [.ref (A 0), .int a1, .int a2] m (some (.int r)) m' := by
  refine met0_of (by decide) (Nat.le_of_ble_eq_true rfl) hI ?_
  intro p e s m0 below meth c ls X hinit hP hS hl
  generalize ([.ref (A 0), .int a1, .int a2] : List Value).toArray = args at X ⊢
  have hl : lv_has ls 3 [(0, .ref (A 0)), (1, .int a1), (2, .int a2)] := hl
  have X : CX cLay cN D cA A p s m0 args meth c "BenchTowels" cX11_ith 3 (some .int) := X
  have hx := X.1
  have hb := X.2.1
  have hml := X.2.2.1
  have hown := X.2.2.2.1
  have hts := X.2.2.2.2.1
  have hF := X.2.2.2.2.2.2.2.2.1
  rewrite [fX11_ith] at h
  refine lv_iload_n hx hb dX11_ith_0 rfl (lv_at hl 1 rfl) ?_
  refine lv_if_lt (tgt := 18) hx hb dX11_ith_1 (by decide) (fun c_1 => ?_) (fun c_1 => ?_)
  · have h := ifp c_1 h
    refine lv_iconst (v := (-1)) hx hb dX11_ith_18 (by decide) ?_
    exact r_iret X hP hS dX11_ith_19 h
  · have h := ifn c_1 h
    refine lv_iload_n hx hb dX11_ith_4 rfl (lv_at hl 1 rfl) ?_
    refine lv_iconst (v := 4) hx hb dX11_ith_5 (by decide) ?_
    refine lv_icmp_gt (tgt := 18) hx hb dX11_ith_6 (by decide) (fun c_2 => ?_) (fun c_2 => ?_)
    · have h := ifp c_2 h
      refine lv_iconst (v := (-1)) hx hb dX11_ith_18 (by decide) ?_
      exact r_iret X hP hS dX11_ith_19 h
    · have h := ifn c_2 h
      refine lv_iload_n hx hb dX11_ith_9 rfl (lv_at hl 2 rfl) ?_
      refine lv_if_lt (tgt := 18) hx hb dX11_ith_10 (by decide) (fun c_3 => ?_) (fun c_3 => ?_)
      · have h := ifp c_3 h
        refine lv_iconst (v := (-1)) hx hb dX11_ith_18 (by decide) ?_
        exact r_iret X hP hS dX11_ith_19 h
      · have h := ifn c_3 h
        refine lv_iload_n hx hb dX11_ith_13 rfl (lv_at hl 2 rfl) ?_
        refine lv_iconst (v := 4) hx hb dX11_ith_14 (by decide) ?_
        refine lv_icmp_lt (tgt := 20) hx hb dX11_ith_15 (by decide) (fun c_4 => ?_) (fun c_4 => ?_)
        · have h := ifp c_4 h
          refine lv_aload_n hx hb dX11_ith_20 rfl (lv_at hl 0 rfl) ?_
          refine r_get kc_11 10 X hP (by decide) (L_bt _) (by decide) rfl wt_2_105 dX11_ith_21 ?_
          refine lv_aload_n hx hb dX11_ith_24 rfl (lv_at hl 0 rfl) ?_
          refine r_get kc_11 7 X hP (by decide) (L_bt _) (by decide) rfl wt_2_102 dX11_ith_25 ?_
          refine lv_iload_n hx hb dX11_ith_28 rfl (lv_at hl 1 rfl) ?_
          refine lv_iconst (v := 0) hx hb dX11_ith_29 (by decide) ?_
          obtain ⟨r_5, m_6, hc_7, h⟩ := bd_some h
          refine c_V (rest := []) X hP hS (tX7_search hI (by decide) hc_7) (by decide) (L_plans _) rfl wt_4_95 wt_4_96 wt_4_97 wt_1_11 wt_4_98 ⟨rfl, hy_X7_search⟩ ⟨rfl, rfl⟩ ⟨Nat.le_of_ble_eq_true rfl, Nat.le_of_ble_eq_true rfl⟩ rfl hl.1 rfl (Nat.le_of_ble_eq_true rfl) dX11_ith_30 rfl (fun H locs hP hS => ?_)
          refine lv_iload_n hx hb dX11_ith_33 rfl (lv_at hl 2 rfl) ?_
          refine lv_aload_n hx hb dX11_ith_34 rfl (lv_at hl 0 rfl) ?_
          refine r_get kc_11 10 X hP (by decide) (L_bt _) (by decide) rfl wt_2_105 dX11_ith_35 ?_
          refine r_get kc_7 5 X hP (by decide) (L_plans _) (by decide) rfl wt_2_0 dX11_ith_38 ?_
          refine lv_icmp_ge (tgt := 56) hx hb dX11_ith_41 (by decide) (fun c_8 => ?_) (fun c_8 => ?_)
          · have h := ifp c_8 h
            refine lv_bipush (v := (-3)) hx hb dX11_ith_56 (by decide) ?_
            exact r_iret X hP hS dX11_ith_58 h
          · have h := ifn c_8 h
            refine lv_aload_n hx hb dX11_ith_44 rfl (lv_at hl 0 rfl) ?_
            refine r_get kc_11 10 X hP (by decide) (L_bt _) (by decide) rfl wt_2_105 dX11_ith_45 ?_
            refine r_get kc_7 4 X hP (by decide) (L_plans _) (by decide) rfl wt_1_238 dX11_ith_48 ?_
            refine lv_iload_n hx hb dX11_ith_51 rfl (lv_at hl 2 rfl) ?_
            obtain ⟨hin_9, h⟩ := gx_some h
            refine r_iald X hP (by decide) (La_67 _) hin_9 rfl dX11_ith_52 ?_
            refine lv_goto (tgt := 58) hx hb dX11_ith_53 (by decide) ?_
            exact r_iret X hP hS dX11_ith_58 h
        · have h := ifn c_4 h
          refine lv_iconst (v := (-1)) hx hb dX11_ith_18 (by decide) ?_
          exact r_iret X hP hS dX11_ith_19 h

def fX11_ways (a1 : Int32) (m : Mm) : Option (Int32 × Mm) := (if a1 < 0 then some ((-1), m) else (if a1 ≤ 4 then bd (fX7_search 0 a1 (0 : Int32) m) fun r_3 m_4 => some ((m_4 64 7), m_4) else some ((-1), m)))
set_option maxHeartbeats 4000000 in
set_option maxRecDepth 100000 in
theorem tX11_ways {l : Launch} {D : va_G} {cA : Nat → ClassId} {A : Nat → Nat} (hI : InjA cN A) {a1 : Int32} {m m' : Mm} {r : Int32} (h : fX11_ways a1 m = some (r, m')) : Met0 l yX11_ways cX11_ways 2 (some .int) { frames := 32, cells := 0, slots := 0, locals := 771 } cLay cN D cA A [.ref (A 0), .int a1] m (some (.int r)) m' := by
  refine met0_of (by decide) (Nat.le_of_ble_eq_true rfl) hI ?_
  intro p e s m0 below meth c ls X hinit hP hS hl
  generalize ([.ref (A 0), .int a1] : List Value).toArray = args at X ⊢
  have hl : lv_has ls 2 [(0, .ref (A 0)), (1, .int a1)] := hl
  have X : CX cLay cN D cA A p s m0 args meth c "BenchTowels" cX11_ways 2 (some .int) := X
  have hx := X.1
  have hb := X.2.1
  have hml := X.2.2.1
  have hown := X.2.2.2.1
  have hts := X.2.2.2.2.1
  have hF := X.2.2.2.2.2.2.2.2.1
  rewrite [fX11_ways] at h
  refine lv_iload_n hx hb dX11_ways_0 rfl (lv_at hl 1 rfl) ?_
  refine lv_if_lt (tgt := 9) hx hb dX11_ways_1 (by decide) (fun c_1 => ?_) (fun c_1 => ?_)
  · have h := ifp c_1 h
    refine lv_iconst (v := (-1)) hx hb dX11_ways_9 (by decide) ?_
    exact r_iret X hP hS dX11_ways_10 h
  · have h := ifn c_1 h
    refine lv_iload_n hx hb dX11_ways_4 rfl (lv_at hl 1 rfl) ?_
    refine lv_iconst (v := 4) hx hb dX11_ways_5 (by decide) ?_
    refine lv_icmp_le (tgt := 11) hx hb dX11_ways_6 (by decide) (fun c_2 => ?_) (fun c_2 => ?_)
    · have h := ifp c_2 h
      refine lv_aload_n hx hb dX11_ways_11 rfl (lv_at hl 0 rfl) ?_
      refine r_get kc_11 10 X hP (by decide) (L_bt _) (by decide) rfl wt_2_105 dX11_ways_12 ?_
      refine lv_aload_n hx hb dX11_ways_15 rfl (lv_at hl 0 rfl) ?_
      refine r_get kc_11 7 X hP (by decide) (L_bt _) (by decide) rfl wt_2_102 dX11_ways_16 ?_
      refine lv_iload_n hx hb dX11_ways_19 rfl (lv_at hl 1 rfl) ?_
      refine lv_iconst (v := 0) hx hb dX11_ways_20 (by decide) ?_
      obtain ⟨r_3, m_4, hc_5, h⟩ := bd_some h
      refine c_V (rest := []) X hP hS (tX7_search hI (by decide) hc_5) (by decide) (L_plans _) rfl wt_4_95 wt_4_96 wt_4_97 wt_1_11 wt_4_98 ⟨rfl, hy_X7_search⟩ ⟨rfl, rfl⟩ ⟨Nat.le_of_ble_eq_true rfl, Nat.le_of_ble_eq_true rfl⟩ rfl hl.1 rfl (Nat.le_of_ble_eq_true rfl) dX11_ways_21 rfl (fun H locs hP hS => ?_)
      refine lv_aload_n hx hb dX11_ways_24 rfl (lv_at hl 0 rfl) ?_
      refine r_get kc_11 10 X hP (by decide) (L_bt _) (by decide) rfl wt_2_105 dX11_ways_25 ?_
      refine r_get kc_7 7 X hP (by decide) (L_plans _) (by decide) rfl wt_2_4 dX11_ways_28 ?_
      exact r_iret X hP hS dX11_ways_31 h
    · have h := ifn c_2 h
      refine lv_iconst (v := (-1)) hx hb dX11_ways_9 (by decide) ?_
      exact r_iret X hP hS dX11_ways_10 h

def fX11_train (a1 : Int32) (a2 : Int32) (m : Mm) : Option (Int32 × Mm) := (if a1 < 0 then some ((-1), m) else (if (4 : Int32) < a1 then some ((-1), m) else bd (fX1_isOfSets 0 a2 m) fun r_3 m_4 => (if r_3 = 0 then some ((-1), m_4) else bd (fX7_search 0 a1 a2 m_4) fun r_7 m_8 => (if (4 : Int32) < (m_8 64 8) then some ((-3), m_8) else some ((m_8 64 8), m_8)))))
set_option maxHeartbeats 4000000 in
set_option maxRecDepth 100000 in
theorem tX11_train {l : Launch} {D : va_G} {cA : Nat → ClassId} {A : Nat → Nat} (hI : InjA cN A) {a1 : Int32} {a2 : Int32} {m m' : Mm} {r : Int32} (h : fX11_train a1 a2 m = some (r, m')) : Met0 l yX11_train cX11_train 3 (some .int) { frames := 32, cells := 0, slots := 0, locals := 771 } cLay cN D cA A [.ref (A 0), .int a1, .int a2] m (some (.int r)) m' := by
  refine met0_of (by decide) (Nat.le_of_ble_eq_true rfl) hI ?_
  intro p e s m0 below meth c ls X hinit hP hS hl
  generalize ([.ref (A 0), .int a1, .int a2] : List Value).toArray = args at X ⊢
  have hl : lv_has ls 3 [(0, .ref (A 0)), (1, .int a1), (2, .int a2)] := hl
  have X : CX cLay cN D cA A p s m0 args meth c "BenchTowels" cX11_train 3 (some .int) := X
  have hx := X.1
  have hb := X.2.1
  have hml := X.2.2.1
  have hown := X.2.2.2.1
  have hts := X.2.2.2.2.1
  have hF := X.2.2.2.2.2.2.2.2.1
  rewrite [fX11_train] at h
  refine lv_iload_n hx hb dX11_train_0 rfl (lv_at hl 1 rfl) ?_
  refine lv_if_lt (tgt := 20) hx hb dX11_train_1 (by decide) (fun c_1 => ?_) (fun c_1 => ?_)
  · have h := ifp c_1 h
    refine lv_iconst (v := (-1)) hx hb dX11_train_20 (by decide) ?_
    exact r_iret X hP hS dX11_train_21 h
  · have h := ifn c_1 h
    refine lv_iload_n hx hb dX11_train_4 rfl (lv_at hl 1 rfl) ?_
    refine lv_iconst (v := 4) hx hb dX11_train_5 (by decide) ?_
    refine lv_icmp_gt (tgt := 20) hx hb dX11_train_6 (by decide) (fun c_2 => ?_) (fun c_2 => ?_)
    · have h := ifp c_2 h
      refine lv_iconst (v := (-1)) hx hb dX11_train_20 (by decide) ?_
      exact r_iret X hP hS dX11_train_21 h
    · have h := ifn c_2 h
      refine lv_aload_n hx hb dX11_train_9 rfl (lv_at hl 0 rfl) ?_
      refine r_get kc_11 7 X hP (by decide) (L_bt _) (by decide) rfl wt_2_102 dX11_train_10 ?_
      refine lv_iload_n hx hb dX11_train_13 rfl (lv_at hl 2 rfl) ?_
      obtain ⟨r_3, m_4, hc_5, h⟩ := bd_some h
      refine c_V (rest := []) X hP hS (tX1_isOfSets hI (by decide) hc_5) (lt_g (by decide) (by decide)) (L_gym (by decide) _) rfl wt_4_38 wt_4_39 wt_4_40 wt_1_10 wt_4_41 ⟨rfl, hy_X1_isOfSets⟩ ⟨rfl, rfl⟩ ⟨Nat.le_of_ble_eq_true rfl, Nat.le_of_ble_eq_true rfl⟩ rfl hl.1 rfl (Nat.le_of_ble_eq_true rfl) dX11_train_14 rfl (fun H locs hP hS => ?_)
      refine lv_if_ne (tgt := 22) hx hb dX11_train_17 (by decide) (fun c_6 => ?_) (fun c_6 => ?_)
      · have h := ifn c_6 h
        refine lv_aload_n hx hb dX11_train_22 rfl (lv_at hl 0 rfl) ?_
        refine r_get kc_11 10 X hP (by decide) (L_bt _) (by decide) rfl wt_2_105 dX11_train_23 ?_
        refine lv_aload_n hx hb dX11_train_26 rfl (lv_at hl 0 rfl) ?_
        refine r_get kc_11 7 X hP (by decide) (L_bt _) (by decide) rfl wt_2_102 dX11_train_27 ?_
        refine lv_iload_n hx hb dX11_train_30 rfl (lv_at hl 1 rfl) ?_
        refine lv_iload_n hx hb dX11_train_31 rfl (lv_at hl 2 rfl) ?_
        obtain ⟨r_7, m_8, hc_9, h⟩ := bd_some h
        refine c_V (rest := []) X hP hS (tX7_search hI (by decide) hc_9) (by decide) (L_plans _) rfl wt_4_95 wt_4_96 wt_4_97 wt_1_11 wt_4_98 ⟨rfl, hy_X7_search⟩ ⟨rfl, rfl⟩ ⟨Nat.le_of_ble_eq_true rfl, Nat.le_of_ble_eq_true rfl⟩ rfl hl.1 rfl (Nat.le_of_ble_eq_true rfl) dX11_train_32 rfl (fun H locs hP hS => ?_)
        refine lv_aload_n hx hb dX11_train_35 rfl (lv_at hl 0 rfl) ?_
        refine r_get kc_11 10 X hP (by decide) (L_bt _) (by decide) rfl wt_2_105 dX11_train_36 ?_
        refine r_get kc_7 8 X hP (by decide) (L_plans _) (by decide) rfl wt_2_6 dX11_train_39 ?_
        refine lv_iconst (v := 4) hx hb dX11_train_42 (by decide) ?_
        refine lv_icmp_gt (tgt := 56) hx hb dX11_train_43 (by decide) (fun c_10 => ?_) (fun c_10 => ?_)
        · have h := ifp c_10 h
          refine lv_bipush (v := (-3)) hx hb dX11_train_56 (by decide) ?_
          exact r_iret X hP hS dX11_train_58 h
        · have h := ifn c_10 h
          refine lv_aload_n hx hb dX11_train_46 rfl (lv_at hl 0 rfl) ?_
          refine r_get kc_11 10 X hP (by decide) (L_bt _) (by decide) rfl wt_2_105 dX11_train_47 ?_
          refine r_get kc_7 8 X hP (by decide) (L_plans _) (by decide) rfl wt_2_6 dX11_train_50 ?_
          refine lv_goto (tgt := 58) hx hb dX11_train_53 (by decide) ?_
          exact r_iret X hP hS dX11_train_58 h
      · have h := ifp c_6 h
        refine lv_iconst (v := (-1)) hx hb dX11_train_20 (by decide) ?_
        exact r_iret X hP hS dX11_train_21 h

def fX11_bars (a1 : Int32) (a2 : Int32) (m : Mm) : Option (Int32 × Mm) := (if a1 < 0 then some ((-1), m) else (if (4 : Int32) < a1 then some ((-1), m) else bd (fX1_isOfSets 0 a2 m) fun r_3 m_4 => (if r_3 = 0 then some ((-1), m_4) else bd (fX7_search 0 a1 a2 m_4) fun r_7 m_8 => lt (a2 &&& ((m_8 64 9) ^^^ (-1))) fun x3_10 => (if x3_10 = 0 then some ((-3), m_8) else bd (fX11_leastOf x3_10 m_8) fun r_13 m_14 => some (r_13, m_14)))))
set_option maxHeartbeats 4000000 in
set_option maxRecDepth 100000 in
theorem tX11_bars {l : Launch} {D : va_G} {cA : Nat → ClassId} {A : Nat → Nat} (hI : InjA cN A) {a1 : Int32} {a2 : Int32} {m m' : Mm} {r : Int32} (h : fX11_bars a1 a2 m = some (r, m')) : Met0 l yX11_bars cX11_bars 4 (some .int) { frames := 32, cells := 0, slots := 0, locals := 771 } cLay cN D cA A [.ref (A 0), .int a1, .int a2] m (some (.int r)) m' := by
  refine met0_of (by decide) (Nat.le_of_ble_eq_true rfl) hI ?_
  intro p e s m0 below meth c ls X hinit hP hS hl
  generalize ([.ref (A 0), .int a1, .int a2] : List Value).toArray = args at X ⊢
  have hl : lv_has ls 4 [(0, .ref (A 0)), (1, .int a1), (2, .int a2)] := hl
  have X : CX cLay cN D cA A p s m0 args meth c "BenchTowels" cX11_bars 4 (some .int) := X
  have hx := X.1
  have hb := X.2.1
  have hml := X.2.2.1
  have hown := X.2.2.2.1
  have hts := X.2.2.2.2.1
  have hF := X.2.2.2.2.2.2.2.2.1
  rewrite [fX11_bars] at h
  refine lv_iload_n hx hb dX11_bars_0 rfl (lv_at hl 1 rfl) ?_
  refine lv_if_lt (tgt := 20) hx hb dX11_bars_1 (by decide) (fun c_1 => ?_) (fun c_1 => ?_)
  · have h := ifp c_1 h
    refine lv_iconst (v := (-1)) hx hb dX11_bars_20 (by decide) ?_
    exact r_iret X hP hS dX11_bars_21 h
  · have h := ifn c_1 h
    refine lv_iload_n hx hb dX11_bars_4 rfl (lv_at hl 1 rfl) ?_
    refine lv_iconst (v := 4) hx hb dX11_bars_5 (by decide) ?_
    refine lv_icmp_gt (tgt := 20) hx hb dX11_bars_6 (by decide) (fun c_2 => ?_) (fun c_2 => ?_)
    · have h := ifp c_2 h
      refine lv_iconst (v := (-1)) hx hb dX11_bars_20 (by decide) ?_
      exact r_iret X hP hS dX11_bars_21 h
    · have h := ifn c_2 h
      refine lv_aload_n hx hb dX11_bars_9 rfl (lv_at hl 0 rfl) ?_
      refine r_get kc_11 7 X hP (by decide) (L_bt _) (by decide) rfl wt_2_102 dX11_bars_10 ?_
      refine lv_iload_n hx hb dX11_bars_13 rfl (lv_at hl 2 rfl) ?_
      obtain ⟨r_3, m_4, hc_5, h⟩ := bd_some h
      refine c_V (rest := []) X hP hS (tX1_isOfSets hI (by decide) hc_5) (lt_g (by decide) (by decide)) (L_gym (by decide) _) rfl wt_4_38 wt_4_39 wt_4_40 wt_1_10 wt_4_41 ⟨rfl, hy_X1_isOfSets⟩ ⟨rfl, rfl⟩ ⟨Nat.le_of_ble_eq_true rfl, Nat.le_of_ble_eq_true rfl⟩ rfl hl.1 rfl (Nat.le_of_ble_eq_true rfl) dX11_bars_14 rfl (fun H locs hP hS => ?_)
      refine lv_if_ne (tgt := 22) hx hb dX11_bars_17 (by decide) (fun c_6 => ?_) (fun c_6 => ?_)
      · have h := ifn c_6 h
        refine lv_aload_n hx hb dX11_bars_22 rfl (lv_at hl 0 rfl) ?_
        refine r_get kc_11 10 X hP (by decide) (L_bt _) (by decide) rfl wt_2_105 dX11_bars_23 ?_
        refine lv_aload_n hx hb dX11_bars_26 rfl (lv_at hl 0 rfl) ?_
        refine r_get kc_11 7 X hP (by decide) (L_bt _) (by decide) rfl wt_2_102 dX11_bars_27 ?_
        refine lv_iload_n hx hb dX11_bars_30 rfl (lv_at hl 1 rfl) ?_
        refine lv_iload_n hx hb dX11_bars_31 rfl (lv_at hl 2 rfl) ?_
        obtain ⟨r_7, m_8, hc_9, h⟩ := bd_some h
        refine c_V (rest := []) X hP hS (tX7_search hI (by decide) hc_9) (by decide) (L_plans _) rfl wt_4_95 wt_4_96 wt_4_97 wt_1_11 wt_4_98 ⟨rfl, hy_X7_search⟩ ⟨rfl, rfl⟩ ⟨Nat.le_of_ble_eq_true rfl, Nat.le_of_ble_eq_true rfl⟩ rfl hl.1 rfl (Nat.le_of_ble_eq_true rfl) dX11_bars_32 rfl (fun H locs hP hS => ?_)
        refine lv_iload_n hx hb dX11_bars_35 rfl (lv_at hl 2 rfl) ?_
        refine lv_aload_n hx hb dX11_bars_36 rfl (lv_at hl 0 rfl) ?_
        refine r_get kc_11 10 X hP (by decide) (L_bt _) (by decide) rfl wt_2_105 dX11_bars_37 ?_
        refine r_get kc_7 9 X hP (by decide) (L_plans _) (by decide) rfl wt_2_8 dX11_bars_40 ?_
        refine lv_iconst (v := (-1)) hx hb dX11_bars_43 (by decide) ?_
        refine lv_ixor hx hb dX11_bars_44 ?_
        refine lv_iand hx hb dX11_bars_45 ?_
        obtain ⟨x3_10, ex_11, h⟩ := lt_some h
        refine lv_ren ex_11 ?_
        refine lv_istore_n (lv' := [(3, .int x3_10), (0, .ref (A 0)), (1, .int a1), (2, .int a2)]) hx hb dX11_bars_46 rfl hl (by decide) rfl (fun ls hl => ?_)
        refine lv_iload_n hx hb dX11_bars_47 rfl (lv_at hl 0 rfl) ?_
        refine lv_if_ne (tgt := 56) hx hb dX11_bars_48 (by decide) (fun c_12 => ?_) (fun c_12 => ?_)
        · have h := ifn c_12 h
          refine lv_iload_n hx hb dX11_bars_56 rfl (lv_at hl 0 rfl) ?_
          obtain ⟨r_13, m_14, hc_15, h⟩ := bd_some h
          refine c_S (rest := []) X hP hS (tX11_leastOf hI  hc_15) wt_4_131 wt_4_77 wt_1_1 wt_4_78 hy_X11_leastOf ⟨rfl, rfl⟩ ⟨Nat.le_of_ble_eq_true rfl, Nat.le_of_ble_eq_true rfl⟩ rfl hl.1 rfl (Nat.le_of_ble_eq_true rfl) dX11_bars_57 rfl (fun H locs hP hS => ?_)
          exact r_iret X hP hS dX11_bars_60 h
        · have h := ifp c_12 h
          refine lv_bipush (v := (-3)) hx hb dX11_bars_51 (by decide) ?_
          refine lv_goto (tgt := 60) hx hb dX11_bars_53 (by decide) ?_
          exact r_iret X hP hS dX11_bars_60 h
      · have h := ifp c_6 h
        refine lv_iconst (v := (-1)) hx hb dX11_bars_20 (by decide) ?_
        exact r_iret X hP hS dX11_bars_21 h

def fX11_game (a1 : Int32) (m : Mm) : Option (Int32 × Mm) := (if a1 < 1 then some ((-1), m) else (if a1 ≤ 4 then bd (fX7_match 0 a1 m) fun r_3 m_4 => some ((m_4 64 10), m_4) else some ((-1), m)))
set_option maxHeartbeats 4000000 in
set_option maxRecDepth 100000 in
theorem tX11_game {l : Launch} {D : va_G} {cA : Nat → ClassId} {A : Nat → Nat} (hI : InjA cN A) {a1 : Int32} {m m' : Mm} {r : Int32} (h : fX11_game a1 m = some (r, m')) : Met0 l yX11_game cX11_game 2 (some .int) { frames := 32, cells := 0, slots := 0, locals := 768 } cLay cN D cA A [.ref (A 0), .int a1] m (some (.int r)) m' := by
  refine met0_of (by decide) (Nat.le_of_ble_eq_true rfl) hI ?_
  intro p e s m0 below meth c ls X hinit hP hS hl
  generalize ([.ref (A 0), .int a1] : List Value).toArray = args at X ⊢
  have hl : lv_has ls 2 [(0, .ref (A 0)), (1, .int a1)] := hl
  have X : CX cLay cN D cA A p s m0 args meth c "BenchTowels" cX11_game 2 (some .int) := X
  have hx := X.1
  have hb := X.2.1
  have hml := X.2.2.1
  have hown := X.2.2.2.1
  have hts := X.2.2.2.2.1
  have hF := X.2.2.2.2.2.2.2.2.1
  rewrite [fX11_game] at h
  refine lv_iload_n hx hb dX11_game_0 rfl (lv_at hl 1 rfl) ?_
  refine lv_iconst (v := 1) hx hb dX11_game_1 (by decide) ?_
  refine lv_icmp_lt (tgt := 10) hx hb dX11_game_2 (by decide) (fun c_1 => ?_) (fun c_1 => ?_)
  · have h := ifp c_1 h
    refine lv_iconst (v := (-1)) hx hb dX11_game_10 (by decide) ?_
    exact r_iret X hP hS dX11_game_11 h
  · have h := ifn c_1 h
    refine lv_iload_n hx hb dX11_game_5 rfl (lv_at hl 1 rfl) ?_
    refine lv_iconst (v := 4) hx hb dX11_game_6 (by decide) ?_
    refine lv_icmp_le (tgt := 12) hx hb dX11_game_7 (by decide) (fun c_2 => ?_) (fun c_2 => ?_)
    · have h := ifp c_2 h
      refine lv_aload_n hx hb dX11_game_12 rfl (lv_at hl 0 rfl) ?_
      refine r_get kc_11 10 X hP (by decide) (L_bt _) (by decide) rfl wt_2_105 dX11_game_13 ?_
      refine lv_aload_n hx hb dX11_game_16 rfl (lv_at hl 0 rfl) ?_
      refine r_get kc_11 7 X hP (by decide) (L_bt _) (by decide) rfl wt_2_102 dX11_game_17 ?_
      refine lv_iload_n hx hb dX11_game_20 rfl (lv_at hl 1 rfl) ?_
      obtain ⟨r_3, m_4, hc_5, h⟩ := bd_some h
      refine c_V (rest := []) X hP hS (tX7_match hI (by decide) hc_5) (by decide) (L_plans _) rfl wt_4_136 wt_4_137 wt_4_138 wt_1_11 wt_4_139 ⟨rfl, hy_X7_match⟩ ⟨rfl, rfl⟩ ⟨Nat.le_of_ble_eq_true rfl, Nat.le_of_ble_eq_true rfl⟩ rfl hl.1 rfl (Nat.le_of_ble_eq_true rfl) dX11_game_21 rfl (fun H locs hP hS => ?_)
      refine lv_aload_n hx hb dX11_game_24 rfl (lv_at hl 0 rfl) ?_
      refine r_get kc_11 10 X hP (by decide) (L_bt _) (by decide) rfl wt_2_105 dX11_game_25 ?_
      refine r_get kc_7 10 X hP (by decide) (L_plans _) (by decide) rfl wt_2_10 dX11_game_28 ?_
      exact r_iret X hP hS dX11_game_31 h
    · have h := ifn c_2 h
      refine lv_iconst (v := (-1)) hx hb dX11_game_10 (by decide) ?_
      exact r_iret X hP hS dX11_game_11 h

def fX11_play (a1 : Int32) (m : Mm) : Option (Int32 × Mm) := (if a1 < 1 then some ((-1), m) else (if a1 ≤ 4 then bd (fX1_isOver 0 m) fun r_3 m_4 => (if r_3 = 0 then bd (fX7_match 0 a1 m_4) fun r_7 m_8 => some ((m_8 64 11), m_8) else some ((-3), m_4)) else some ((-1), m)))
set_option maxHeartbeats 4000000 in
set_option maxRecDepth 100000 in
theorem tX11_play {l : Launch} {D : va_G} {cA : Nat → ClassId} {A : Nat → Nat} (hI : InjA cN A) {a1 : Int32} {m m' : Mm} {r : Int32} (h : fX11_play a1 m = some (r, m')) : Met0 l yX11_play cX11_play 2 (some .int) { frames := 32, cells := 0, slots := 0, locals := 768 } cLay cN D cA A [.ref (A 0), .int a1] m (some (.int r)) m' := by
  refine met0_of (by decide) (Nat.le_of_ble_eq_true rfl) hI ?_
  intro p e s m0 below meth c ls X hinit hP hS hl
  generalize ([.ref (A 0), .int a1] : List Value).toArray = args at X ⊢
  have hl : lv_has ls 2 [(0, .ref (A 0)), (1, .int a1)] := hl
  have X : CX cLay cN D cA A p s m0 args meth c "BenchTowels" cX11_play 2 (some .int) := X
  have hx := X.1
  have hb := X.2.1
  have hml := X.2.2.1
  have hown := X.2.2.2.1
  have hts := X.2.2.2.2.1
  have hF := X.2.2.2.2.2.2.2.2.1
  rewrite [fX11_play] at h
  refine lv_iload_n hx hb dX11_play_0 rfl (lv_at hl 1 rfl) ?_
  refine lv_iconst (v := 1) hx hb dX11_play_1 (by decide) ?_
  refine lv_icmp_lt (tgt := 10) hx hb dX11_play_2 (by decide) (fun c_1 => ?_) (fun c_1 => ?_)
  · have h := ifp c_1 h
    refine lv_iconst (v := (-1)) hx hb dX11_play_10 (by decide) ?_
    exact r_iret X hP hS dX11_play_11 h
  · have h := ifn c_1 h
    refine lv_iload_n hx hb dX11_play_5 rfl (lv_at hl 1 rfl) ?_
    refine lv_iconst (v := 4) hx hb dX11_play_6 (by decide) ?_
    refine lv_icmp_le (tgt := 12) hx hb dX11_play_7 (by decide) (fun c_2 => ?_) (fun c_2 => ?_)
    · have h := ifp c_2 h
      refine lv_aload_n hx hb dX11_play_12 rfl (lv_at hl 0 rfl) ?_
      refine r_get kc_11 7 X hP (by decide) (L_bt _) (by decide) rfl wt_2_102 dX11_play_13 ?_
      obtain ⟨r_3, m_4, hc_5, h⟩ := bd_some h
      refine c_V (rest := []) X hP hS (tX1_isOver hI (by decide) hc_5) (lt_g (by decide) (by decide)) (L_gym (by decide) _) rfl wt_3_73 wt_3_74 wt_3_75 wt_1_10 wt_3_76 ⟨rfl, hy_X1_isOver⟩ ⟨rfl, rfl⟩ ⟨Nat.le_of_ble_eq_true rfl, Nat.le_of_ble_eq_true rfl⟩ rfl hl.1 rfl (Nat.le_of_ble_eq_true rfl) dX11_play_16 rfl (fun H locs hP hS => ?_)
      refine lv_if_eq (tgt := 25) hx hb dX11_play_19 (by decide) (fun c_6 => ?_) (fun c_6 => ?_)
      · have h := ifp c_6 h
        refine lv_aload_n hx hb dX11_play_25 rfl (lv_at hl 0 rfl) ?_
        refine r_get kc_11 10 X hP (by decide) (L_bt _) (by decide) rfl wt_2_105 dX11_play_26 ?_
        refine lv_aload_n hx hb dX11_play_29 rfl (lv_at hl 0 rfl) ?_
        refine r_get kc_11 7 X hP (by decide) (L_bt _) (by decide) rfl wt_2_102 dX11_play_30 ?_
        refine lv_iload_n hx hb dX11_play_33 rfl (lv_at hl 1 rfl) ?_
        obtain ⟨r_7, m_8, hc_9, h⟩ := bd_some h
        refine c_V (rest := []) X hP hS (tX7_match hI (by decide) hc_9) (by decide) (L_plans _) rfl wt_4_136 wt_4_137 wt_4_138 wt_1_11 wt_4_139 ⟨rfl, hy_X7_match⟩ ⟨rfl, rfl⟩ ⟨Nat.le_of_ble_eq_true rfl, Nat.le_of_ble_eq_true rfl⟩ rfl hl.1 rfl (Nat.le_of_ble_eq_true rfl) dX11_play_34 rfl (fun H locs hP hS => ?_)
        refine lv_aload_n hx hb dX11_play_37 rfl (lv_at hl 0 rfl) ?_
        refine r_get kc_11 10 X hP (by decide) (L_bt _) (by decide) rfl wt_2_105 dX11_play_38 ?_
        refine r_get kc_7 11 X hP (by decide) (L_plans _) (by decide) rfl wt_2_12 dX11_play_41 ?_
        exact r_iret X hP hS dX11_play_44 h
      · have h := ifn c_6 h
        refine lv_bipush (v := (-3)) hx hb dX11_play_22 (by decide) ?_
        exact r_iret X hP hS dX11_play_24 h
    · have h := ifn c_2 h
      refine lv_iconst (v := (-1)) hx hb dX11_play_10 (by decide) ?_
      exact r_iret X hP hS dX11_play_11 h

def fX11_report (a1 : Int32) (a2 : Int32) (a3 : Int32) (m : Mm) : Option (Int32 × Mm) := (if a1 < 0 then some ((-1), m) else (if (16 : Int32) ≤ a1 then some ((-1), m) else (if a2 < 0 then some ((-1), m) else (if (4 : Int32) < a3 then some ((-1), m) else (if (a2 : Int32) ≤ a3 then (if (m (mp 0 0) 3) < 6 then bd (fX4_add 0 a1 a2 a3 m) fun r_7 m_8 => some (r_7, m_8) else some ((-2), m)) else some ((-1), m))))))
set_option maxHeartbeats 4000000 in
set_option maxRecDepth 100000 in
theorem tX11_report {l : Launch} {D : va_G} {cA : Nat → ClassId} {A : Nat → Nat} (hI : InjA cN A) {a1 : Int32} {a2 : Int32} {a3 : Int32} {m m' : Mm} {r : Int32} (h : fX11_report a1 a2 a3 m = some (r, m')) : Met0 l yX11_report cX11_report 4 (some .int) { frames := 1, cells := 0, slots := 0, locals := 23 } cLay cN D cA A [.ref (A 0), .int a1, .int a2, .int a3] m (some (.int r)) m' := by
  refine met0_of (by decide) (Nat.le_of_ble_eq_true rfl) hI ?_
  intro p e s m0 below meth c ls X hinit hP hS hl
  generalize ([.ref (A 0), .int a1, .int a2, .int a3] : List Value).toArray = args at X ⊢
  have hl : lv_has ls 4 [(0, .ref (A 0)), (1, .int a1), (2, .int a2), (3, .int a3)] := hl
  have X : CX cLay cN D cA A p s m0 args meth c "BenchTowels" cX11_report 4 (some .int) := X
  have hx := X.1
  have hb := X.2.1
  have hml := X.2.2.1
  have hown := X.2.2.2.1
  have hts := X.2.2.2.2.1
  have hF := X.2.2.2.2.2.2.2.2.1
  rewrite [fX11_report] at h
  refine lv_iload_n hx hb dX11_report_0 rfl (lv_at hl 1 rfl) ?_
  refine lv_if_lt (tgt := 24) hx hb dX11_report_1 (by decide) (fun c_1 => ?_) (fun c_1 => ?_)
  · have h := ifp c_1 h
    refine lv_iconst (v := (-1)) hx hb dX11_report_24 (by decide) ?_
    exact r_iret X hP hS dX11_report_25 h
  · have h := ifn c_1 h
    refine lv_iload_n hx hb dX11_report_4 rfl (lv_at hl 1 rfl) ?_
    refine lv_bipush (v := 16) hx hb dX11_report_5 (by decide) ?_
    refine lv_icmp_ge (tgt := 24) hx hb dX11_report_7 (by decide) (fun c_2 => ?_) (fun c_2 => ?_)
    · have h := ifp c_2 h
      refine lv_iconst (v := (-1)) hx hb dX11_report_24 (by decide) ?_
      exact r_iret X hP hS dX11_report_25 h
    · have h := ifn c_2 h
      refine lv_iload_n hx hb dX11_report_10 rfl (lv_at hl 2 rfl) ?_
      refine lv_if_lt (tgt := 24) hx hb dX11_report_11 (by decide) (fun c_3 => ?_) (fun c_3 => ?_)
      · have h := ifp c_3 h
        refine lv_iconst (v := (-1)) hx hb dX11_report_24 (by decide) ?_
        exact r_iret X hP hS dX11_report_25 h
      · have h := ifn c_3 h
        refine lv_iload_n hx hb dX11_report_14 rfl (lv_at hl 3 rfl) ?_
        refine lv_iconst (v := 4) hx hb dX11_report_15 (by decide) ?_
        refine lv_icmp_gt (tgt := 24) hx hb dX11_report_16 (by decide) (fun c_4 => ?_) (fun c_4 => ?_)
        · have h := ifp c_4 h
          refine lv_iconst (v := (-1)) hx hb dX11_report_24 (by decide) ?_
          exact r_iret X hP hS dX11_report_25 h
        · have h := ifn c_4 h
          refine lv_iload_n hx hb dX11_report_19 rfl (lv_at hl 3 rfl) ?_
          refine lv_iload_n hx hb dX11_report_20 rfl (lv_at hl 2 rfl) ?_
          refine lv_icmp_ge (tgt := 26) hx hb dX11_report_21 (by decide) (fun c_5 => ?_) (fun c_5 => ?_)
          · have h := ifp c_5 h
            refine lv_aload_n hx hb dX11_report_26 rfl (lv_at hl 0 rfl) ?_
            refine r_get kc_11 5 X hP (by decide) (L_bt _) (by decide) rfl wt_2_100 dX11_report_27 ?_
            refine r_get kc_4 3 X hP (lt_m (by decide) (by decide)) (L_men (by decide) _) (by decide) rfl wt_1_88 dX11_report_30 ?_
            refine lv_bipush (v := 6) hx hb dX11_report_33 (by decide) ?_
            refine lv_icmp_lt (tgt := 43) hx hb dX11_report_35 (by decide) (fun c_6 => ?_) (fun c_6 => ?_)
            · have h := ifp c_6 h
              refine lv_aload_n hx hb dX11_report_43 rfl (lv_at hl 0 rfl) ?_
              refine r_get kc_11 5 X hP (by decide) (L_bt _) (by decide) rfl wt_2_100 dX11_report_44 ?_
              refine lv_iload_n hx hb dX11_report_47 rfl (lv_at hl 1 rfl) ?_
              refine lv_iload_n hx hb dX11_report_48 rfl (lv_at hl 2 rfl) ?_
              refine lv_iload_n hx hb dX11_report_49 rfl (lv_at hl 3 rfl) ?_
              obtain ⟨r_7, m_8, hc_9, h⟩ := bd_some h
              refine c_V (rest := []) X hP hS (tX4_add hI (by decide) hc_9) (lt_m (by decide) (by decide)) (L_men (by decide) _) rfl wt_4_152 wt_4_153 wt_4_154 wt_1_3 wt_4_155 ⟨rfl, hy_X4_add⟩ ⟨rfl, rfl⟩ ⟨Nat.le_of_ble_eq_true rfl, Nat.le_of_ble_eq_true rfl⟩ rfl hl.1 rfl (Nat.le_of_ble_eq_true rfl) dX11_report_50 rfl (fun H locs hP hS => ?_)
              exact r_iret X hP hS dX11_report_53 h
            · have h := ifn c_6 h
              refine lv_bipush (v := (-2)) hx hb dX11_report_38 (by decide) ?_
              refine lv_goto (tgt := 53) hx hb dX11_report_40 (by decide) ?_
              exact r_iret X hP hS dX11_report_53 h
          · have h := ifn c_5 h
            refine lv_iconst (v := (-1)) hx hb dX11_report_24 (by decide) ?_
            exact r_iret X hP hS dX11_report_25 h

def fX11_forget  (m : Mm) : Option (Int32 × Mm) := lt (m (mp 0 0) 3) fun x1_1 => lt (up m (mp 0 0) 3 0) fun m_3 => some (x1_1, m_3)
set_option maxHeartbeats 4000000 in
set_option maxRecDepth 100000 in
theorem tX11_forget {l : Launch} {D : va_G} {cA : Nat → ClassId} {A : Nat → Nat} (hI : InjA cN A) {m m' : Mm} {r : Int32} (h : fX11_forget m = some (r, m')) : Met0 l yX11_forget cX11_forget 2 (some .int) { frames := 0, cells := 0, slots := 0, locals := 0 } cLay cN D cA A [.ref (A 0)] m (some (.int r)) m' := by
  refine met0_of (by decide) (Nat.le_of_ble_eq_true rfl) hI ?_
  intro p e s m0 below meth c ls X hinit hP hS hl
  generalize ([.ref (A 0)] : List Value).toArray = args at X ⊢
  have hl : lv_has ls 2 [(0, .ref (A 0))] := hl
  have X : CX cLay cN D cA A p s m0 args meth c "BenchTowels" cX11_forget 2 (some .int) := X
  have hx := X.1
  have hb := X.2.1
  have hml := X.2.2.1
  have hown := X.2.2.2.1
  have hts := X.2.2.2.2.1
  have hF := X.2.2.2.2.2.2.2.2.1
  rewrite [fX11_forget] at h
  refine lv_aload_n hx hb dX11_forget_0 rfl (lv_at hl 0 rfl) ?_
  refine r_get kc_11 5 X hP (by decide) (L_bt _) (by decide) rfl wt_2_100 dX11_forget_1 ?_
  refine r_get kc_4 3 X hP (lt_m (by decide) (by decide)) (L_men (by decide) _) (by decide) rfl wt_1_88 dX11_forget_4 ?_
  obtain ⟨x1_1, ex_2, h⟩ := lt_some h
  refine lv_ren ex_2 ?_
  refine lv_istore_n (lv' := [(1, .int x1_1), (0, .ref (A 0))]) hx hb dX11_forget_7 rfl hl (by decide) rfl (fun ls hl => ?_)
  refine lv_aload_n hx hb dX11_forget_8 rfl (lv_at hl 1 rfl) ?_
  refine r_get kc_11 5 X hP (by decide) (L_bt _) (by decide) rfl wt_2_100 dX11_forget_9 ?_
  refine lv_iconst (v := 0) hx hb dX11_forget_12 (by decide) ?_
  obtain ⟨m_3, em_4, h⟩ := lt_some h
  refine r_put kc_4 3 X hP hS (lt_m (by decide) (by decide)) (L_men (by decide) _) (L_men (by decide) _) (by decide) wt_1_88 rfl (by decide +kernel) (Nat.le_of_ble_eq_true rfl) dX11_forget_13 em_4 (fun H locs hP hS => ?_)
  refine lv_iload_n hx hb dX11_forget_16 rfl (lv_at hl 0 rfl) ?_
  exact r_iret X hP hS dX11_forget_17 h

def fX11_span (a1 : Int32) (m : Mm) : Option (Int32 × Mm) := (if a1 < 0 then some ((-1), m) else (if a1 ≤ 3 then bd (fX4_look 0 m) fun r_3 m_4 => (if a1 = 0 then some ((m_4 (mp 0 0) 4), m_4) else (if (m_4 (mp 0 0) 4) = 0 then some ((-3), m_4) else (if a1 = 1 then some ((m_4 (mp 0 0) 5), m_4) else (if a1 = 2 then some ((m_4 (mp 0 0) 6), m_4) else some ((m_4 (mp 0 0) 7), m_4))))) else some ((-1), m)))
set_option maxHeartbeats 4000000 in
set_option maxRecDepth 100000 in
theorem tX11_span {l : Launch} {D : va_G} {cA : Nat → ClassId} {A : Nat → Nat} (hI : InjA cN A) {a1 : Int32} {m m' : Mm} {r : Int32} (h : fX11_span a1 m = some (r, m')) : Met0 l yX11_span cX11_span 2 (some .int) { frames := 3, cells := 0, slots := 0, locals := 90 } cLay cN D cA A [.ref (A 0), .int a1] m (some (.int r)) m' := by
  refine met0_of (by decide) (Nat.le_of_ble_eq_true rfl) hI ?_
  intro p e s m0 below meth c ls X hinit hP hS hl
  generalize ([.ref (A 0), .int a1] : List Value).toArray = args at X ⊢
  have hl : lv_has ls 2 [(0, .ref (A 0)), (1, .int a1)] := hl
  have X : CX cLay cN D cA A p s m0 args meth c "BenchTowels" cX11_span 2 (some .int) := X
  have hx := X.1
  have hb := X.2.1
  have hml := X.2.2.1
  have hown := X.2.2.2.1
  have hts := X.2.2.2.2.1
  have hF := X.2.2.2.2.2.2.2.2.1
  rewrite [fX11_span] at h
  refine lv_iload_n hx hb dX11_span_0 rfl (lv_at hl 1 rfl) ?_
  refine lv_if_lt (tgt := 9) hx hb dX11_span_1 (by decide) (fun c_1 => ?_) (fun c_1 => ?_)
  · have h := ifp c_1 h
    refine lv_iconst (v := (-1)) hx hb dX11_span_9 (by decide) ?_
    exact r_iret X hP hS dX11_span_10 h
  · have h := ifn c_1 h
    refine lv_iload_n hx hb dX11_span_4 rfl (lv_at hl 1 rfl) ?_
    refine lv_iconst (v := 3) hx hb dX11_span_5 (by decide) ?_
    refine lv_icmp_le (tgt := 11) hx hb dX11_span_6 (by decide) (fun c_2 => ?_) (fun c_2 => ?_)
    · have h := ifp c_2 h
      refine lv_aload_n hx hb dX11_span_11 rfl (lv_at hl 0 rfl) ?_
      refine r_get kc_11 5 X hP (by decide) (L_bt _) (by decide) rfl wt_2_100 dX11_span_12 ?_
      obtain ⟨r_3, m_4, hc_5, h⟩ := bd_some h
      refine c_V (rest := []) X hP hS (tX4_look hI (by decide) hc_5) (lt_m (by decide) (by decide)) (L_men (by decide) _) rfl wt_4_164 wt_4_165 wt_4_166 wt_1_3 wt_4_167 ⟨rfl, hy_X4_look⟩ ⟨rfl, rfl⟩ ⟨Nat.le_of_ble_eq_true rfl, Nat.le_of_ble_eq_true rfl⟩ rfl hl.1 rfl (Nat.le_of_ble_eq_true rfl) dX11_span_15 rfl (fun H locs hP hS => ?_)
      refine lv_iload_n hx hb dX11_span_18 rfl (lv_at hl 1 rfl) ?_
      refine lv_if_ne (tgt := 30) hx hb dX11_span_19 (by decide) (fun c_6 => ?_) (fun c_6 => ?_)
      · have h := ifn c_6 h
        refine lv_aload_n hx hb dX11_span_30 rfl (lv_at hl 0 rfl) ?_
        refine r_get kc_11 5 X hP (by decide) (L_bt _) (by decide) rfl wt_2_100 dX11_span_31 ?_
        refine r_get kc_4 4 X hP (lt_m (by decide) (by decide)) (L_men (by decide) _) (by decide) rfl wt_1_90 dX11_span_34 ?_
        refine lv_if_ne (tgt := 43) hx hb dX11_span_37 (by decide) (fun c_7 => ?_) (fun c_7 => ?_)
        · have h := ifn c_7 h
          refine lv_iload_n hx hb dX11_span_43 rfl (lv_at hl 1 rfl) ?_
          refine lv_iconst (v := 1) hx hb dX11_span_44 (by decide) ?_
          refine lv_icmp_ne (tgt := 56) hx hb dX11_span_45 (by decide) (fun c_8 => ?_) (fun c_8 => ?_)
          · have h := ifn c_8 h
            refine lv_iload_n hx hb dX11_span_56 rfl (lv_at hl 1 rfl) ?_
            refine lv_iconst (v := 2) hx hb dX11_span_57 (by decide) ?_
            refine lv_icmp_ne (tgt := 71) hx hb dX11_span_58 (by decide) (fun c_9 => ?_) (fun c_9 => ?_)
            · have h := ifn c_9 h
              refine lv_aload_n hx hb dX11_span_71 rfl (lv_at hl 0 rfl) ?_
              refine r_get kc_11 5 X hP (by decide) (L_bt _) (by decide) rfl wt_2_100 dX11_span_72 ?_
              refine r_get kc_4 7 X hP (lt_m (by decide) (by decide)) (L_men (by decide) _) (by decide) rfl wt_1_96 dX11_span_75 ?_
              exact r_iret X hP hS dX11_span_78 h
            · have h := ifp c_9 h
              refine lv_aload_n hx hb dX11_span_61 rfl (lv_at hl 0 rfl) ?_
              refine r_get kc_11 5 X hP (by decide) (L_bt _) (by decide) rfl wt_2_100 dX11_span_62 ?_
              refine r_get kc_4 6 X hP (lt_m (by decide) (by decide)) (L_men (by decide) _) (by decide) rfl wt_1_94 dX11_span_65 ?_
              refine lv_goto (tgt := 78) hx hb dX11_span_68 (by decide) ?_
              exact r_iret X hP hS dX11_span_78 h
          · have h := ifp c_8 h
            refine lv_aload_n hx hb dX11_span_48 rfl (lv_at hl 0 rfl) ?_
            refine r_get kc_11 5 X hP (by decide) (L_bt _) (by decide) rfl wt_2_100 dX11_span_49 ?_
            refine r_get kc_4 5 X hP (lt_m (by decide) (by decide)) (L_men (by decide) _) (by decide) rfl wt_1_92 dX11_span_52 ?_
            exact r_iret X hP hS dX11_span_55 h
        · have h := ifp c_7 h
          refine lv_bipush (v := (-3)) hx hb dX11_span_40 (by decide) ?_
          exact r_iret X hP hS dX11_span_42 h
      · have h := ifp c_6 h
        refine lv_aload_n hx hb dX11_span_22 rfl (lv_at hl 0 rfl) ?_
        refine r_get kc_11 5 X hP (by decide) (L_bt _) (by decide) rfl wt_2_100 dX11_span_23 ?_
        refine r_get kc_4 4 X hP (lt_m (by decide) (by decide)) (L_men (by decide) _) (by decide) rfl wt_1_90 dX11_span_26 ?_
        exact r_iret X hP hS dX11_span_29 h
    · have h := ifn c_2 h
      refine lv_iconst (v := (-1)) hx hb dX11_span_9 (by decide) ?_
      exact r_iret X hP hS dX11_span_10 h

def fX11_liar  (m : Mm) : Option (Int32 × Mm) := bd (fX4_look 0 m) fun r_1 m_2 => (if (0 : Int32) < (m_2 (mp 0 0) 4) then some ((-3), m_2) else (if (m_2 (mp 0 0) 8) < (m_2 (mp 0 0) 3) then some ((m_2 (mp 0 0) 8), m_2) else some ((-3), m_2)))
set_option maxHeartbeats 4000000 in
set_option maxRecDepth 100000 in
theorem tX11_liar {l : Launch} {D : va_G} {cA : Nat → ClassId} {A : Nat → Nat} (hI : InjA cN A) {m m' : Mm} {r : Int32} (h : fX11_liar m = some (r, m')) : Met0 l yX11_liar cX11_liar 1 (some .int) { frames := 3, cells := 0, slots := 0, locals := 90 } cLay cN D cA A [.ref (A 0)] m (some (.int r)) m' := by
  refine met0_of (by decide) (Nat.le_of_ble_eq_true rfl) hI ?_
  intro p e s m0 below meth c ls X hinit hP hS hl
  generalize ([.ref (A 0)] : List Value).toArray = args at X ⊢
  have hl : lv_has ls 1 [(0, .ref (A 0))] := hl
  have X : CX cLay cN D cA A p s m0 args meth c "BenchTowels" cX11_liar 1 (some .int) := X
  have hx := X.1
  have hb := X.2.1
  have hml := X.2.2.1
  have hown := X.2.2.2.1
  have hts := X.2.2.2.2.1
  have hF := X.2.2.2.2.2.2.2.2.1
  rewrite [fX11_liar] at h
  refine lv_aload_n hx hb dX11_liar_0 rfl (lv_at hl 0 rfl) ?_
  refine r_get kc_11 5 X hP (by decide) (L_bt _) (by decide) rfl wt_2_100 dX11_liar_1 ?_
  obtain ⟨r_1, m_2, hc_3, h⟩ := bd_some h
  refine c_V (rest := []) X hP hS (tX4_look hI (by decide) hc_3) (lt_m (by decide) (by decide)) (L_men (by decide) _) rfl wt_4_164 wt_4_165 wt_4_166 wt_1_3 wt_4_167 ⟨rfl, hy_X4_look⟩ ⟨rfl, rfl⟩ ⟨Nat.le_of_ble_eq_true rfl, Nat.le_of_ble_eq_true rfl⟩ rfl hl.1 rfl (Nat.le_of_ble_eq_true rfl) dX11_liar_4 rfl (fun H locs hP hS => ?_)
  refine lv_aload_n hx hb dX11_liar_7 rfl (lv_at hl 0 rfl) ?_
  refine r_get kc_11 5 X hP (by decide) (L_bt _) (by decide) rfl wt_2_100 dX11_liar_8 ?_
  refine r_get kc_4 4 X hP (lt_m (by decide) (by decide)) (L_men (by decide) _) (by decide) rfl wt_1_90 dX11_liar_11 ?_
  refine lv_if_gt (tgt := 34) hx hb dX11_liar_14 (by decide) (fun c_4 => ?_) (fun c_4 => ?_)
  · have h := ifp c_4 h
    refine lv_bipush (v := (-3)) hx hb dX11_liar_34 (by decide) ?_
    refine lv_goto (tgt := 46) hx hb dX11_liar_36 (by decide) ?_
    exact r_iret X hP hS dX11_liar_46 h
  · have h := ifn c_4 h
    refine lv_aload_n hx hb dX11_liar_17 rfl (lv_at hl 0 rfl) ?_
    refine r_get kc_11 5 X hP (by decide) (L_bt _) (by decide) rfl wt_2_100 dX11_liar_18 ?_
    refine r_get kc_4 8 X hP (lt_m (by decide) (by decide)) (L_men (by decide) _) (by decide) rfl wt_1_98 dX11_liar_21 ?_
    refine lv_aload_n hx hb dX11_liar_24 rfl (lv_at hl 0 rfl) ?_
    refine r_get kc_11 5 X hP (by decide) (L_bt _) (by decide) rfl wt_2_100 dX11_liar_25 ?_
    refine r_get kc_4 3 X hP (lt_m (by decide) (by decide)) (L_men (by decide) _) (by decide) rfl wt_1_88 dX11_liar_28 ?_
    refine lv_icmp_lt (tgt := 39) hx hb dX11_liar_31 (by decide) (fun c_5 => ?_) (fun c_5 => ?_)
    · have h := ifp c_5 h
      refine lv_aload_n hx hb dX11_liar_39 rfl (lv_at hl 0 rfl) ?_
      refine r_get kc_11 5 X hP (by decide) (L_bt _) (by decide) rfl wt_2_100 dX11_liar_40 ?_
      refine r_get kc_4 8 X hP (lt_m (by decide) (by decide)) (L_men (by decide) _) (by decide) rfl wt_1_98 dX11_liar_43 ?_
      exact r_iret X hP hS dX11_liar_46 h
    · have h := ifn c_5 h
      refine lv_bipush (v := (-3)) hx hb dX11_liar_34 (by decide) ?_
      refine lv_goto (tgt := 46) hx hb dX11_liar_36 (by decide) ?_
      exact r_iret X hP hS dX11_liar_46 h

def fX11_seed (a1 : Int32) (m : Mm) : Option (Int32 × Mm) := lt (m (gp 0 0) 9) fun x2_1 => lt (up m (gp 0 0) 9 a1) fun m_3 => some (x2_1, m_3)
set_option maxHeartbeats 4000000 in
set_option maxRecDepth 100000 in
theorem tX11_seed {l : Launch} {D : va_G} {cA : Nat → ClassId} {A : Nat → Nat} (hI : InjA cN A) {a1 : Int32} {m m' : Mm} {r : Int32} (h : fX11_seed a1 m = some (r, m')) : Met0 l yX11_seed cX11_seed 3 (some .int) { frames := 0, cells := 0, slots := 0, locals := 0 } cLay cN D cA A [.ref (A 0), .int a1] m (some (.int r)) m' := by
  refine met0_of (by decide) (Nat.le_of_ble_eq_true rfl) hI ?_
  intro p e s m0 below meth c ls X hinit hP hS hl
  generalize ([.ref (A 0), .int a1] : List Value).toArray = args at X ⊢
  have hl : lv_has ls 3 [(0, .ref (A 0)), (1, .int a1)] := hl
  have X : CX cLay cN D cA A p s m0 args meth c "BenchTowels" cX11_seed 3 (some .int) := X
  have hx := X.1
  have hb := X.2.1
  have hml := X.2.2.1
  have hown := X.2.2.2.1
  have hts := X.2.2.2.2.1
  have hF := X.2.2.2.2.2.2.2.2.1
  rewrite [fX11_seed] at h
  refine lv_aload_n hx hb dX11_seed_0 rfl (lv_at hl 0 rfl) ?_
  refine r_get kc_11 7 X hP (by decide) (L_bt _) (by decide) rfl wt_2_102 dX11_seed_1 ?_
  refine r_get kc_1 9 X hP (lt_g (by decide) (by decide)) (L_gym (by decide) _) (by decide) rfl wt_1_191 dX11_seed_4 ?_
  obtain ⟨x2_1, ex_2, h⟩ := lt_some h
  refine lv_ren ex_2 ?_
  refine lv_istore_n (lv' := [(2, .int x2_1), (0, .ref (A 0)), (1, .int a1)]) hx hb dX11_seed_7 rfl hl (by decide) rfl (fun ls hl => ?_)
  refine lv_aload_n hx hb dX11_seed_8 rfl (lv_at hl 1 rfl) ?_
  refine r_get kc_11 7 X hP (by decide) (L_bt _) (by decide) rfl wt_2_102 dX11_seed_9 ?_
  refine lv_iload_n hx hb dX11_seed_12 rfl (lv_at hl 2 rfl) ?_
  obtain ⟨m_3, em_4, h⟩ := lt_some h
  refine r_put kc_1 9 X hP hS (lt_g (by decide) (by decide)) (L_gym (by decide) _) (L_gym (by decide) _) (by decide) wt_1_191 rfl (by decide +kernel) (Nat.le_of_ble_eq_true rfl) dX11_seed_13 em_4 (fun H locs hP hS => ?_)
  refine lv_iload_n hx hb dX11_seed_16 rfl (lv_at hl 0 rfl) ?_
  exact r_iret X hP hS dX11_seed_17 h

def fX11_lot  (m : Mm) : Option (Int32 × Mm) := bd (fX1_isOver 0 m) fun r_1 m_2 => (if r_1 = 0 then bd (fX1_drawAct 0 m_2) fun r_5 m_6 => bd (fX1_goBy 0 r_5 m_6) fun r_8 m_9 => some (r_8, m_9) else some ((-4), m_2))
set_option maxHeartbeats 4000000 in
set_option maxRecDepth 100000 in
theorem tX11_lot {l : Launch} {D : va_G} {cA : Nat → ClassId} {A : Nat → Nat} (hI : InjA cN A) {m m' : Mm} {r : Int32} (h : fX11_lot m = some (r, m')) : Met0 l yX11_lot cX11_lot 1 (some .int) { frames := 5, cells := 0, slots := 0, locals := 120 } cLay cN D cA A [.ref (A 0)] m (some (.int r)) m' := by
  refine met0_of (by decide) (Nat.le_of_ble_eq_true rfl) hI ?_
  intro p e s m0 below meth c ls X hinit hP hS hl
  generalize ([.ref (A 0)] : List Value).toArray = args at X ⊢
  have hl : lv_has ls 1 [(0, .ref (A 0))] := hl
  have X : CX cLay cN D cA A p s m0 args meth c "BenchTowels" cX11_lot 1 (some .int) := X
  have hx := X.1
  have hb := X.2.1
  have hml := X.2.2.1
  have hown := X.2.2.2.1
  have hts := X.2.2.2.2.1
  have hF := X.2.2.2.2.2.2.2.2.1
  rewrite [fX11_lot] at h
  refine lv_aload_n hx hb dX11_lot_0 rfl (lv_at hl 0 rfl) ?_
  refine r_get kc_11 7 X hP (by decide) (L_bt _) (by decide) rfl wt_2_102 dX11_lot_1 ?_
  obtain ⟨r_1, m_2, hc_3, h⟩ := bd_some h
  refine c_V (rest := []) X hP hS (tX1_isOver hI (by decide) hc_3) (lt_g (by decide) (by decide)) (L_gym (by decide) _) rfl wt_3_73 wt_3_74 wt_3_75 wt_1_10 wt_3_76 ⟨rfl, hy_X1_isOver⟩ ⟨rfl, rfl⟩ ⟨Nat.le_of_ble_eq_true rfl, Nat.le_of_ble_eq_true rfl⟩ rfl hl.1 rfl (Nat.le_of_ble_eq_true rfl) dX11_lot_4 rfl (fun H locs hP hS => ?_)
  refine lv_if_eq (tgt := 15) hx hb dX11_lot_7 (by decide) (fun c_4 => ?_) (fun c_4 => ?_)
  · have h := ifp c_4 h
    refine lv_aload_n hx hb dX11_lot_15 rfl (lv_at hl 0 rfl) ?_
    refine r_get kc_11 7 X hP (by decide) (L_bt _) (by decide) rfl wt_2_102 dX11_lot_16 ?_
    refine lv_aload_n hx hb dX11_lot_19 rfl (lv_at hl 0 rfl) ?_
    refine r_get kc_11 7 X hP (by decide) (L_bt _) (by decide) rfl wt_2_102 dX11_lot_20 ?_
    obtain ⟨r_5, m_6, hc_7, h⟩ := bd_some h
    refine c_V (rest := [.ref (A (gp 0 0))]) X hP hS (tX1_drawAct hI (by decide) hc_7) (lt_g (by decide) (by decide)) (L_gym (by decide) _) rfl wt_4_188 wt_4_189 wt_4_190 wt_1_10 wt_4_191 ⟨rfl, hy_X1_drawAct⟩ ⟨rfl, rfl⟩ ⟨Nat.le_of_ble_eq_true rfl, Nat.le_of_ble_eq_true rfl⟩ rfl hl.1 rfl (Nat.le_of_ble_eq_true rfl) dX11_lot_23 rfl (fun H locs hP hS => ?_)
    obtain ⟨r_8, m_9, hc_10, h⟩ := bd_some h
    refine c_V (rest := []) X hP hS (tX1_goBy hI (by decide) hc_10) (lt_g (by decide) (by decide)) (L_gym (by decide) _) rfl wt_3_218 wt_3_219 wt_3_220 wt_1_10 wt_3_221 ⟨rfl, hy_X1_goBy⟩ ⟨rfl, rfl⟩ ⟨Nat.le_of_ble_eq_true rfl, Nat.le_of_ble_eq_true rfl⟩ rfl hl.1 rfl (Nat.le_of_ble_eq_true rfl) dX11_lot_26 rfl (fun H locs hP hS => ?_)
    exact r_iret X hP hS dX11_lot_29 h
  · have h := ifn c_4 h
    refine lv_bipush (v := (-4)) hx hb dX11_lot_10 (by decide) ?_
    refine lv_goto (tgt := 29) hx hb dX11_lot_12 (by decide) ?_
    exact r_iret X hP hS dX11_lot_29 h

def fX11_times_40  : Nat → Int32 → Int32 → Int32 → Int32 → Mm → Option (Int32 × Mm)
  | 0, _, _, _, _, _ => none
  | n + 1, x1, x2, x3, x4, m => (if (x1 : Int32) ≤ x4 then some (x3, m) else bd (fX1_follow 2 0 m) fun r_9 m_10 => bd (fX1_goByLot 2 m_10) fun r_12 m_13 => (if r_12 < x2 then lt ((x4 : Int32) + 1) fun x4_16 => (fX11_times_40 n x1 x2 x3 x4_16 m_13) else lt ((x3 : Int32) + 1) fun x3_18 => lt ((x4 : Int32) + 1) fun x4_20 => (fX11_times_40 n x1 x2 x3_18 x4_20 m_13)))
set_option maxHeartbeats 4000000 in
set_option maxRecDepth 100000 in
theorem tX11_times_40 (hI : InjA cN A)  {r : Int32} {m' : Mm} (X : CX cLay cN D cA A p s m0 args meth c "BenchTowels" cX11_times 5 (some .int)) : ∀ (n : Nat) (x1 : Int32) (x2 : Int32) (x3 : Int32) (x4 : Int32) (m : Mm) (H : Heap) (locs : List Loc) (ls : Array Slot), fX11_times_40 n x1 x2 x3 x4 m = some (r, m') → va_P D vwCl (wsOf cLay cN cA A m) H → va_S (AW cN A) s.heap H locs → lv_has ls 5 [(0, .ref (A 0)), (1, .int x1), (2, .int x2), (3, .int x3), (4, .int x4)] → W p l e { frames := 6, cells := 0, slots := 0, locals := 142 } s m0 args below meth c H locs 0 0 (ZR below args s cLay cN D cA A (some (.int r)) m') (F0 m0 40 ls []) := by
  have hx := X.1
  have hb := X.2.1
  have hml := X.2.2.1
  have hown := X.2.2.2.1
  have hts := X.2.2.2.2.1
  have hF := X.2.2.2.2.2.2.2.2.1
  intro n
  induction n with
  | zero =>
    intro x1 x2 x3 x4 m H locs ls h hP hS hl
    exact absurd h (by rewrite [fX11_times_40]; exact fun q => by cases q)
  | succ n ih =>
    intro x1 x2 x3 x4 m H locs ls h hP hS hl
    rewrite [fX11_times_40] at h
    refine lv_iload hx hb dX11_times_40 (lv_at hl 4 rfl) ?_
    refine lv_iload_n hx hb dX11_times_42 rfl (lv_at hl 1 rfl) ?_
    refine lv_icmp_ge (tgt := 77) hx hb dX11_times_43 (by decide) (fun c_8 => ?_) (fun c_8 => ?_)
    · have h := ifp c_8 h
      refine lv_iload_n hx hb dX11_times_77 rfl (lv_at hl 3 rfl) ?_
      exact r_iret X hP hS dX11_times_78 h
    · have h := ifn c_8 h
      refine lv_aload_n hx hb dX11_times_46 rfl (lv_at hl 0 rfl) ?_
      refine r_get kc_11 9 X hP (by decide) (L_bt _) (by decide) rfl wt_2_104 dX11_times_47 ?_
      refine lv_aload_n hx hb dX11_times_50 rfl (lv_at hl 0 rfl) ?_
      refine r_get kc_11 7 X hP (by decide) (L_bt _) (by decide) rfl wt_2_102 dX11_times_51 ?_
      obtain ⟨r_9, m_10, hc_11, h⟩ := bd_some h
      refine c_V (rest := []) X hP hS (tX1_follow hI (by decide) (by decide) hc_11) (lt_g (by decide) (by decide)) (L_gym (by decide) _) rfl wt_4_197 wt_4_8 wt_4_9 wt_1_10 wt_4_10 ⟨rfl, hy_X1_follow⟩ ⟨rfl, rfl⟩ ⟨Nat.le_of_ble_eq_true rfl, Nat.le_of_ble_eq_true rfl⟩ rfl hl.1 rfl (Nat.le_of_ble_eq_true rfl) dX11_times_54 rfl (fun H locs hP hS => ?_)
      refine lv_aload_n hx hb dX11_times_57 rfl (lv_at hl 0 rfl) ?_
      refine r_get kc_11 9 X hP (by decide) (L_bt _) (by decide) rfl wt_2_104 dX11_times_58 ?_
      obtain ⟨r_12, m_13, hc_14, h⟩ := bd_some h
      refine c_V (rest := []) X hP hS (tX1_goByLot hI (by decide) hc_14) (lt_g (by decide) (by decide)) (L_gym (by decide) _) rfl wt_4_198 wt_4_199 wt_4_200 wt_1_10 wt_4_201 ⟨rfl, hy_X1_goByLot⟩ ⟨rfl, rfl⟩ ⟨Nat.le_of_ble_eq_true rfl, Nat.le_of_ble_eq_true rfl⟩ rfl hl.1 rfl (Nat.le_of_ble_eq_true rfl) dX11_times_61 rfl (fun H locs hP hS => ?_)
      refine lv_iload_n hx hb dX11_times_64 rfl (lv_at hl 2 rfl) ?_
      refine lv_icmp_lt (tgt := 71) hx hb dX11_times_65 (by decide) (fun c_15 => ?_) (fun c_15 => ?_)
      · have h := ifp c_15 h
        obtain ⟨x4_16, ex_17, h⟩ := lt_some h
        refine lv_iinc (v := x4_16) (lv' := [(4, .int x4_16), (0, .ref (A 0)), (1, .int x1), (2, .int x2), (3, .int x3)]) hx hb dX11_times_71 hl (k := 4) rfl (by rw [ex_17]; rfl) (by decide) rfl (fun ls hl => ?_)
        refine lv_goto (tgt := 40) hx hb dX11_times_74 (by decide) ?_
        exact ih x1 x2 x3 x4_16 m_13 _ _ _  h hP hS (lv_sub hl [1, 2, 3, 4, 0] rfl)
      · have h := ifn c_15 h
        obtain ⟨x3_18, ex_19, h⟩ := lt_some h
        refine lv_iinc (v := x3_18) (lv' := [(3, .int x3_18), (0, .ref (A 0)), (1, .int x1), (2, .int x2), (4, .int x4)]) hx hb dX11_times_68 hl (k := 3) rfl (by rw [ex_19]; rfl) (by decide) rfl (fun ls hl => ?_)
        obtain ⟨x4_20, ex_21, h⟩ := lt_some h
        refine lv_iinc (v := x4_20) (lv' := [(4, .int x4_20), (3, .int x3_18), (0, .ref (A 0)), (1, .int x1), (2, .int x2)]) hx hb dX11_times_71 hl (k := 4) rfl (by rw [ex_21]; rfl) (by decide) rfl (fun ls hl => ?_)
        refine lv_goto (tgt := 40) hx hb dX11_times_74 (by decide) ?_
        exact ih x1 x2 x3_18 x4_20 m_13 _ _ _  h hP hS (lv_sub hl [2, 3, 4, 1, 0] rfl)

def fX11_times (a1 : Int32) (a2 : Int32) (m : Mm) : Option (Int32 × Mm) := (if a1 < 1 then some ((-1), m) else (if (40 : Int32) < a1 then some ((-1), m) else (if a2 < 0 then some ((-1), m) else (if a2 ≤ 999 then bd (fX1_copy 2 0 m) fun r_5 m_6 => (fX11_times_40  FL a1 a2 0 0 m_6) else some ((-1), m)))))
set_option maxHeartbeats 4000000 in
set_option maxRecDepth 100000 in
theorem tX11_times {l : Launch} {D : va_G} {cA : Nat → ClassId} {A : Nat → Nat} (hI : InjA cN A) {a1 : Int32} {a2 : Int32} {m m' : Mm} {r : Int32} (h : fX11_times a1 a2 m = some (r, m')) : Met0 l yX11_times cX11_times 5 (some .int) { frames := 6, cells := 0, slots := 0, locals := 142 } cLay cN D cA A [.ref (A 0), .int a1, .int a2] m (some (.int r)) m' := by
  refine met0_of (by decide) (Nat.le_of_ble_eq_true rfl) hI ?_
  intro p e s m0 below meth c ls X hinit hP hS hl
  generalize ([.ref (A 0), .int a1, .int a2] : List Value).toArray = args at X ⊢
  have hl : lv_has ls 5 [(0, .ref (A 0)), (1, .int a1), (2, .int a2)] := hl
  have X : CX cLay cN D cA A p s m0 args meth c "BenchTowels" cX11_times 5 (some .int) := X
  have hx := X.1
  have hb := X.2.1
  have hml := X.2.2.1
  have hown := X.2.2.2.1
  have hts := X.2.2.2.2.1
  have hF := X.2.2.2.2.2.2.2.2.1
  rewrite [fX11_times] at h
  refine lv_iload_n hx hb dX11_times_0 rfl (lv_at hl 1 rfl) ?_
  refine lv_iconst (v := 1) hx hb dX11_times_1 (by decide) ?_
  refine lv_icmp_lt (tgt := 22) hx hb dX11_times_2 (by decide) (fun c_1 => ?_) (fun c_1 => ?_)
  · have h := ifp c_1 h
    refine lv_iconst (v := (-1)) hx hb dX11_times_22 (by decide) ?_
    exact r_iret X hP hS dX11_times_23 h
  · have h := ifn c_1 h
    refine lv_iload_n hx hb dX11_times_5 rfl (lv_at hl 1 rfl) ?_
    refine lv_bipush (v := 40) hx hb dX11_times_6 (by decide) ?_
    refine lv_icmp_gt (tgt := 22) hx hb dX11_times_8 (by decide) (fun c_2 => ?_) (fun c_2 => ?_)
    · have h := ifp c_2 h
      refine lv_iconst (v := (-1)) hx hb dX11_times_22 (by decide) ?_
      exact r_iret X hP hS dX11_times_23 h
    · have h := ifn c_2 h
      refine lv_iload_n hx hb dX11_times_11 rfl (lv_at hl 2 rfl) ?_
      refine lv_if_lt (tgt := 22) hx hb dX11_times_12 (by decide) (fun c_3 => ?_) (fun c_3 => ?_)
      · have h := ifp c_3 h
        refine lv_iconst (v := (-1)) hx hb dX11_times_22 (by decide) ?_
        exact r_iret X hP hS dX11_times_23 h
      · have h := ifn c_3 h
        refine lv_iload_n hx hb dX11_times_15 rfl (lv_at hl 2 rfl) ?_
        refine lv_sipush (v := 999) hx hb dX11_times_16 (by decide) ?_
        refine lv_icmp_le (tgt := 24) hx hb dX11_times_19 (by decide) (fun c_4 => ?_) (fun c_4 => ?_)
        · have h := ifp c_4 h
          refine lv_aload_n hx hb dX11_times_24 rfl (lv_at hl 0 rfl) ?_
          refine r_get kc_11 9 X hP (by decide) (L_bt _) (by decide) rfl wt_2_104 dX11_times_25 ?_
          refine lv_aload_n hx hb dX11_times_28 rfl (lv_at hl 0 rfl) ?_
          refine r_get kc_11 7 X hP (by decide) (L_bt _) (by decide) rfl wt_2_102 dX11_times_29 ?_
          obtain ⟨r_5, m_6, hc_7, h⟩ := bd_some h
          refine c_V (rest := []) X hP hS (tX1_copy hI (by decide) (by decide) hc_7) (lt_g (by decide) (by decide)) (L_gym (by decide) _) rfl wt_4_2 wt_4_3 wt_4_4 wt_1_10 wt_4_5 ⟨rfl, hy_X1_copy⟩ ⟨rfl, rfl⟩ ⟨Nat.le_of_ble_eq_true rfl, Nat.le_of_ble_eq_true rfl⟩ rfl hl.1 rfl (Nat.le_of_ble_eq_true rfl) dX11_times_32 rfl (fun H locs hP hS => ?_)
          refine lv_iconst (v := 0) hx hb dX11_times_35 (by decide) ?_
          refine lv_istore_n (lv' := [(3, .int 0), (0, .ref (A 0)), (1, .int a1), (2, .int a2)]) hx hb dX11_times_36 rfl hl (by decide) rfl (fun ls hl => ?_)
          refine lv_iconst (v := 0) hx hb dX11_times_37 (by decide) ?_
          refine lv_istore (lv' := [(4, .int 0), (3, .int 0), (0, .ref (A 0)), (1, .int a1), (2, .int a2)]) hx hb dX11_times_38 hl (by decide) rfl (fun ls hl => ?_)
          exact tX11_times_40 hI    X FL a1 a2 0 0 m_6 _ _ _  h hP hS (lv_sub hl [2, 3, 4, 1, 0] rfl)
        · have h := ifn c_4 h
          refine lv_iconst (v := (-1)) hx hb dX11_times_22 (by decide) ?_
          exact r_iret X hP hS dX11_times_23 h

def fX11_prove_48  : Nat → Int32 → Mm → Option (Int32 × Mm)
  | 0, _, _ => none
  | n + 1, x2, m => (if ((m 0 13) : Int32) ≤ x2 then some ((m 0 13), m) else gx x2 4 (lt (up m (10 + (ix x2)) 0 (m 67 (ix x2))) fun m_14 => bd (fX1_goBy 2 (m_14 67 (ix x2)) m_14) fun r_17 m_18 => lt (up m_18 (10 + (ix x2)) 1 r_17) fun m_20 => bd (fX1_spent 2 m_20) fun r_23 m_24 => lt (up m_24 (10 + (ix x2)) 2 r_23) fun m_26 => lt ((x2 : Int32) + 1) fun x2_28 => (fX11_prove_48 n x2_28 m_26)))
set_option maxHeartbeats 4000000 in
set_option maxRecDepth 100000 in
theorem tX11_prove_48 (hI : InjA cN A)  {r : Int32} {m' : Mm} (X : CX cLay cN D cA A p s m0 args meth c "BenchTowels" cX11_prove 3 (some .int)) : ∀ (n : Nat) (x2 : Int32) (m : Mm) (H : Heap) (locs : List Loc) (ls : Array Slot), fX11_prove_48 n x2 m = some (r, m') → va_P D vwCl (wsOf cLay cN cA A m) H → va_S (AW cN A) s.heap H locs → lv_has ls 3 [(0, .ref (A 0)), (2, .int x2)] → W p l e { frames := 32, cells := 0, slots := 0, locals := 771 } s m0 args below meth c H locs 0 0 (ZR below args s cLay cN D cA A (some (.int r)) m') (F0 m0 48 ls []) := by
  have hx := X.1
  have hb := X.2.1
  have hml := X.2.2.1
  have hown := X.2.2.2.1
  have hts := X.2.2.2.2.1
  have hF := X.2.2.2.2.2.2.2.2.1
  intro n
  induction n with
  | zero =>
    intro x2 m H locs ls h hP hS hl
    exact absurd h (by rewrite [fX11_prove_48]; exact fun q => by cases q)
  | succ n ih =>
    intro x2 m H locs ls h hP hS hl
    rewrite [fX11_prove_48] at h
    refine lv_iload_n hx hb dX11_prove_48 rfl (lv_at hl 1 rfl) ?_
    refine lv_aload_n hx hb dX11_prove_49 rfl (lv_at hl 0 rfl) ?_
    refine r_get kc_11 13 X hP (by decide) (L_bt _) (by decide) rfl wt_2_108 dX11_prove_50 ?_
    refine lv_icmp_ge (tgt := 118) hx hb dX11_prove_53 (by decide) (fun c_11 => ?_) (fun c_11 => ?_)
    · have h := ifp c_11 h
      refine lv_aload_n hx hb dX11_prove_118 rfl (lv_at hl 0 rfl) ?_
      refine r_get kc_11 13 X hP (by decide) (L_bt _) (by decide) rfl wt_2_108 dX11_prove_119 ?_
      exact r_iret X hP hS dX11_prove_122 h
    · have h := ifn c_11 h
      refine lv_aload_n hx hb dX11_prove_56 rfl (lv_at hl 0 rfl) ?_
      refine r_get kc_11 12 X hP (by decide) (L_bt _) (by decide) rfl wt_2_107 dX11_prove_57 ?_
      refine lv_iload_n hx hb dX11_prove_60 rfl (lv_at hl 1 rfl) ?_
      obtain ⟨hin_12, h⟩ := gx_some h
      have q_13 := vp_lt hin_12
      refine r_row (q' := (10 + (ix x2))) X hP (by decide) (Lq_9 _) hin_12 rfl q_13 rfl dX11_prove_61 ?_
      refine lv_iconst (v := 0) hx hb dX11_prove_62 (by decide) ?_
      refine lv_aload_n hx hb dX11_prove_63 rfl (lv_at hl 0 rfl) ?_
      refine r_get kc_11 10 X hP (by decide) (L_bt _) (by decide) rfl wt_2_105 dX11_prove_64 ?_
      refine r_get kc_7 4 X hP (by decide) (L_plans _) (by decide) rfl wt_1_238 dX11_prove_67 ?_
      refine lv_iload_n hx hb dX11_prove_70 rfl (lv_at hl 1 rfl) ?_
      refine r_iald X hP (by decide) (La_67 _) hin_12 rfl dX11_prove_71 ?_
      obtain ⟨m_14, em_15, h⟩ := lt_some h
      refine r_iast X hP hS (lt_add (j := (ix x2)) q_13 (by decide)) (La_rows (j := (ix x2)) q_13) (vpc (by decide)) ixc_0 dX11_prove_72 em_15 (fun H locs hP hS => ?_)
      refine lv_aload_n hx hb dX11_prove_73 rfl (lv_at hl 0 rfl) ?_
      refine r_get kc_11 12 X hP (by decide) (L_bt _) (by decide) rfl wt_2_107 dX11_prove_74 ?_
      refine lv_iload_n hx hb dX11_prove_77 rfl (lv_at hl 1 rfl) ?_
      have q_16 := vp_lt hin_12
      refine r_row (q' := (10 + (ix x2))) X hP (by decide) (Lq_9 _) hin_12 rfl q_16 rfl dX11_prove_78 ?_
      refine lv_iconst (v := 1) hx hb dX11_prove_79 (by decide) ?_
      refine lv_aload_n hx hb dX11_prove_80 rfl (lv_at hl 0 rfl) ?_
      refine r_get kc_11 9 X hP (by decide) (L_bt _) (by decide) rfl wt_2_104 dX11_prove_81 ?_
      refine lv_aload_n hx hb dX11_prove_84 rfl (lv_at hl 0 rfl) ?_
      refine r_get kc_11 10 X hP (by decide) (L_bt _) (by decide) rfl wt_2_105 dX11_prove_85 ?_
      refine r_get kc_7 4 X hP (by decide) (L_plans _) (by decide) rfl wt_1_238 dX11_prove_88 ?_
      refine lv_iload_n hx hb dX11_prove_91 rfl (lv_at hl 1 rfl) ?_
      refine r_iald X hP (by decide) (La_67 _) hin_12 rfl dX11_prove_92 ?_
      obtain ⟨r_17, m_18, hc_19, h⟩ := bd_some h
      refine c_V (rest := [.int 1, .ref (A (10 + (ix x2)))]) X hP hS (tX1_goBy hI (by decide) hc_19) (lt_g (by decide) (by decide)) (L_gym (by decide) _) rfl wt_3_218 wt_3_219 wt_3_220 wt_1_10 wt_3_221 ⟨rfl, hy_X1_goBy⟩ ⟨rfl, rfl⟩ ⟨Nat.le_of_ble_eq_true rfl, Nat.le_of_ble_eq_true rfl⟩ rfl hl.1 rfl (Nat.le_of_ble_eq_true rfl) dX11_prove_93 rfl (fun H locs hP hS => ?_)
      obtain ⟨m_20, em_21, h⟩ := lt_some h
      refine r_iast X hP hS (lt_add (j := (ix x2)) q_16 (by decide)) (La_rows (j := (ix x2)) q_16) (vpc (by decide)) ixc_1 dX11_prove_96 em_21 (fun H locs hP hS => ?_)
      refine lv_aload_n hx hb dX11_prove_97 rfl (lv_at hl 0 rfl) ?_
      refine r_get kc_11 12 X hP (by decide) (L_bt _) (by decide) rfl wt_2_107 dX11_prove_98 ?_
      refine lv_iload_n hx hb dX11_prove_101 rfl (lv_at hl 1 rfl) ?_
      have q_22 := vp_lt hin_12
      refine r_row (q' := (10 + (ix x2))) X hP (by decide) (Lq_9 _) hin_12 rfl q_22 rfl dX11_prove_102 ?_
      refine lv_iconst (v := 2) hx hb dX11_prove_103 (by decide) ?_
      refine lv_aload_n hx hb dX11_prove_104 rfl (lv_at hl 0 rfl) ?_
      refine r_get kc_11 9 X hP (by decide) (L_bt _) (by decide) rfl wt_2_104 dX11_prove_105 ?_
      obtain ⟨r_23, m_24, hc_25, h⟩ := bd_some h
      refine c_V (rest := [.int 2, .ref (A (10 + (ix x2)))]) X hP hS (tX1_spent hI (by decide) hc_25) (lt_g (by decide) (by decide)) (L_gym (by decide) _) rfl wt_3_77 wt_3_78 wt_3_79 wt_1_10 wt_3_80 ⟨rfl, hy_X1_spent⟩ ⟨rfl, rfl⟩ ⟨Nat.le_of_ble_eq_true rfl, Nat.le_of_ble_eq_true rfl⟩ rfl hl.1 rfl (Nat.le_of_ble_eq_true rfl) dX11_prove_108 rfl (fun H locs hP hS => ?_)
      obtain ⟨m_26, em_27, h⟩ := lt_some h
      refine r_iast X hP hS (lt_add (j := (ix x2)) q_22 (by decide)) (La_rows (j := (ix x2)) q_22) (vpc (by decide)) ixc_2 dX11_prove_111 em_27 (fun H locs hP hS => ?_)
      obtain ⟨x2_28, ex_29, h⟩ := lt_some h
      refine lv_iinc (v := x2_28) (lv' := [(2, .int x2_28), (0, .ref (A 0))]) hx hb dX11_prove_112 hl (k := 1) rfl (by rw [ex_29]; rfl) (by decide) rfl (fun ls hl => ?_)
      refine lv_goto (tgt := 48) hx hb dX11_prove_115 (by decide) ?_
      exact ih x2_28 m_26 _ _ _  h hP hS (lv_sub hl [1, 0] rfl)

def fX11_prove (a1 : Int32) (m : Mm) : Option (Int32 × Mm) := (if a1 < 0 then some ((-1), m) else (if a1 ≤ 4 then bd (fX7_search 0 a1 (0 : Int32) m) fun r_3 m_4 => bd (fX1_copy 2 0 m_4) fun r_6 m_7 => lt (up m_7 0 13 (m_7 64 5)) fun m_9 => (fX11_prove_48  FL 0 m_9) else some ((-1), m)))
set_option maxHeartbeats 4000000 in
set_option maxRecDepth 100000 in
theorem tX11_prove {l : Launch} {D : va_G} {cA : Nat → ClassId} {A : Nat → Nat} (hI : InjA cN A) {a1 : Int32} {m m' : Mm} {r : Int32} (h : fX11_prove a1 m = some (r, m')) : Met0 l yX11_prove cX11_prove 3 (some .int) { frames := 32, cells := 0, slots := 0, locals := 771 } cLay cN D cA A [.ref (A 0), .int a1] m (some (.int r)) m' := by
  refine met0_of (by decide) (Nat.le_of_ble_eq_true rfl) hI ?_
  intro p e s m0 below meth c ls X hinit hP hS hl
  generalize ([.ref (A 0), .int a1] : List Value).toArray = args at X ⊢
  have hl : lv_has ls 3 [(0, .ref (A 0)), (1, .int a1)] := hl
  have X : CX cLay cN D cA A p s m0 args meth c "BenchTowels" cX11_prove 3 (some .int) := X
  have hx := X.1
  have hb := X.2.1
  have hml := X.2.2.1
  have hown := X.2.2.2.1
  have hts := X.2.2.2.2.1
  have hF := X.2.2.2.2.2.2.2.2.1
  rewrite [fX11_prove] at h
  refine lv_iload_n hx hb dX11_prove_0 rfl (lv_at hl 1 rfl) ?_
  refine lv_if_lt (tgt := 9) hx hb dX11_prove_1 (by decide) (fun c_1 => ?_) (fun c_1 => ?_)
  · have h := ifp c_1 h
    refine lv_iconst (v := (-1)) hx hb dX11_prove_9 (by decide) ?_
    exact r_iret X hP hS dX11_prove_10 h
  · have h := ifn c_1 h
    refine lv_iload_n hx hb dX11_prove_4 rfl (lv_at hl 1 rfl) ?_
    refine lv_iconst (v := 4) hx hb dX11_prove_5 (by decide) ?_
    refine lv_icmp_le (tgt := 11) hx hb dX11_prove_6 (by decide) (fun c_2 => ?_) (fun c_2 => ?_)
    · have h := ifp c_2 h
      refine lv_aload_n hx hb dX11_prove_11 rfl (lv_at hl 0 rfl) ?_
      refine r_get kc_11 10 X hP (by decide) (L_bt _) (by decide) rfl wt_2_105 dX11_prove_12 ?_
      refine lv_aload_n hx hb dX11_prove_15 rfl (lv_at hl 0 rfl) ?_
      refine r_get kc_11 7 X hP (by decide) (L_bt _) (by decide) rfl wt_2_102 dX11_prove_16 ?_
      refine lv_iload_n hx hb dX11_prove_19 rfl (lv_at hl 1 rfl) ?_
      refine lv_iconst (v := 0) hx hb dX11_prove_20 (by decide) ?_
      obtain ⟨r_3, m_4, hc_5, h⟩ := bd_some h
      refine c_V (rest := []) X hP hS (tX7_search hI (by decide) hc_5) (by decide) (L_plans _) rfl wt_4_95 wt_4_96 wt_4_97 wt_1_11 wt_4_98 ⟨rfl, hy_X7_search⟩ ⟨rfl, rfl⟩ ⟨Nat.le_of_ble_eq_true rfl, Nat.le_of_ble_eq_true rfl⟩ rfl hl.1 rfl (Nat.le_of_ble_eq_true rfl) dX11_prove_21 rfl (fun H locs hP hS => ?_)
      refine lv_aload_n hx hb dX11_prove_24 rfl (lv_at hl 0 rfl) ?_
      refine r_get kc_11 9 X hP (by decide) (L_bt _) (by decide) rfl wt_2_104 dX11_prove_25 ?_
      refine lv_aload_n hx hb dX11_prove_28 rfl (lv_at hl 0 rfl) ?_
      refine r_get kc_11 7 X hP (by decide) (L_bt _) (by decide) rfl wt_2_102 dX11_prove_29 ?_
      obtain ⟨r_6, m_7, hc_8, h⟩ := bd_some h
      refine c_V (rest := []) X hP hS (tX1_copy hI (by decide) (by decide) hc_8) (lt_g (by decide) (by decide)) (L_gym (by decide) _) rfl wt_4_2 wt_4_3 wt_4_4 wt_1_10 wt_4_5 ⟨rfl, hy_X1_copy⟩ ⟨rfl, rfl⟩ ⟨Nat.le_of_ble_eq_true rfl, Nat.le_of_ble_eq_true rfl⟩ rfl hl.1 rfl (Nat.le_of_ble_eq_true rfl) dX11_prove_32 rfl (fun H locs hP hS => ?_)
      refine lv_aload_n hx hb dX11_prove_35 rfl (lv_at hl 0 rfl) ?_
      refine lv_aload_n hx hb dX11_prove_36 rfl (lv_at hl 0 rfl) ?_
      refine r_get kc_11 10 X hP (by decide) (L_bt _) (by decide) rfl wt_2_105 dX11_prove_37 ?_
      refine r_get kc_7 5 X hP (by decide) (L_plans _) (by decide) rfl wt_2_0 dX11_prove_40 ?_
      obtain ⟨m_9, em_10, h⟩ := lt_some h
      refine r_put kc_11 13 X hP hS (by decide) (L_bt _) (L_bt _) (by decide) wt_2_108 rfl (by decide +kernel) (Nat.le_of_ble_eq_true rfl) dX11_prove_43 em_10 (fun H locs hP hS => ?_)
      refine lv_iconst (v := 0) hx hb dX11_prove_46 (by decide) ?_
      refine lv_istore_n (lv' := [(2, .int 0), (0, .ref (A 0)), (1, .int a1)]) hx hb dX11_prove_47 rfl hl (by decide) rfl (fun ls hl => ?_)
      exact tX11_prove_48 hI    X FL 0 m_9 _ _ _  h hP hS (lv_sub hl [1, 0] rfl)
    · have h := ifn c_2 h
      refine lv_iconst (v := (-1)) hx hb dX11_prove_9 (by decide) ?_
      exact r_iret X hP hS dX11_prove_10 h

def fX11_isInRow (a1 : Int32) (a2 : Int32) (m : Mm) : Option (Int32 × Mm) := (if a1 < 0 then some (0, m) else (if ((m 0 13) : Int32) ≤ a1 then some (0, m) else (if a2 < 0 then some (0, m) else (if (3 : Int32) ≤ a2 then some (0, m) else some (1, m)))))
set_option maxHeartbeats 4000000 in
set_option maxRecDepth 100000 in
theorem tX11_isInRow {l : Launch} {D : va_G} {cA : Nat → ClassId} {A : Nat → Nat} (hI : InjA cN A) {a1 : Int32} {a2 : Int32} {m m' : Mm} {r : Int32} (h : fX11_isInRow a1 a2 m = some (r, m')) : Met0 l yX11_isInRow cX11_isInRow 3 (some .boolean) { frames := 0, cells := 0, slots := 0, locals := 0 } cLay cN D cA A [.ref (A 0), .int a1, .int a2] m (some (.int r)) m' := by
  refine met0_of (by decide) (Nat.le_of_ble_eq_true rfl) hI ?_
  intro p e s m0 below meth c ls X hinit hP hS hl
  generalize ([.ref (A 0), .int a1, .int a2] : List Value).toArray = args at X ⊢
  have hl : lv_has ls 3 [(0, .ref (A 0)), (1, .int a1), (2, .int a2)] := hl
  have X : CX cLay cN D cA A p s m0 args meth c "BenchTowels" cX11_isInRow 3 (some .boolean) := X
  have hx := X.1
  have hb := X.2.1
  have hml := X.2.2.1
  have hown := X.2.2.2.1
  have hts := X.2.2.2.2.1
  have hF := X.2.2.2.2.2.2.2.2.1
  rewrite [fX11_isInRow] at h
  refine lv_iload_n hx hb dX11_isInRow_0 rfl (lv_at hl 1 rfl) ?_
  refine lv_if_lt (tgt := 25) hx hb dX11_isInRow_1 (by decide) (fun c_1 => ?_) (fun c_1 => ?_)
  · have h := ifp c_1 h
    refine lv_iconst (v := 0) hx hb dX11_isInRow_25 (by decide) ?_
    exact r_zret X (Or.inl rfl) hP hS dX11_isInRow_26 h
  · have h := ifn c_1 h
    refine lv_iload_n hx hb dX11_isInRow_4 rfl (lv_at hl 1 rfl) ?_
    refine lv_aload_n hx hb dX11_isInRow_5 rfl (lv_at hl 0 rfl) ?_
    refine r_get kc_11 13 X hP (by decide) (L_bt _) (by decide) rfl wt_2_108 dX11_isInRow_6 ?_
    refine lv_icmp_ge (tgt := 25) hx hb dX11_isInRow_9 (by decide) (fun c_2 => ?_) (fun c_2 => ?_)
    · have h := ifp c_2 h
      refine lv_iconst (v := 0) hx hb dX11_isInRow_25 (by decide) ?_
      exact r_zret X (Or.inl rfl) hP hS dX11_isInRow_26 h
    · have h := ifn c_2 h
      refine lv_iload_n hx hb dX11_isInRow_12 rfl (lv_at hl 2 rfl) ?_
      refine lv_if_lt (tgt := 25) hx hb dX11_isInRow_13 (by decide) (fun c_3 => ?_) (fun c_3 => ?_)
      · have h := ifp c_3 h
        refine lv_iconst (v := 0) hx hb dX11_isInRow_25 (by decide) ?_
        exact r_zret X (Or.inl rfl) hP hS dX11_isInRow_26 h
      · have h := ifn c_3 h
        refine lv_iload_n hx hb dX11_isInRow_16 rfl (lv_at hl 2 rfl) ?_
        refine lv_iconst (v := 3) hx hb dX11_isInRow_17 (by decide) ?_
        refine lv_icmp_ge (tgt := 25) hx hb dX11_isInRow_18 (by decide) (fun c_4 => ?_) (fun c_4 => ?_)
        · have h := ifp c_4 h
          refine lv_iconst (v := 0) hx hb dX11_isInRow_25 (by decide) ?_
          exact r_zret X (Or.inl rfl) hP hS dX11_isInRow_26 h
        · have h := ifn c_4 h
          refine lv_iconst (v := 1) hx hb dX11_isInRow_21 (by decide) ?_
          refine lv_goto (tgt := 26) hx hb dX11_isInRow_22 (by decide) ?_
          exact r_zret X (Or.inr rfl) hP hS dX11_isInRow_26 h

def fX11_row (a1 : Int32) (a2 : Int32) (m : Mm) : Option (Int32 × Mm) := bd (fX11_isInRow a1 a2 m) fun r_1 m_2 => (if r_1 = 0 then some ((-9), m_2) else gx a1 4 (gx a2 3 (some ((m_2 (10 + (ix a1)) (ix a2)), m_2))))
set_option maxHeartbeats 4000000 in
set_option maxRecDepth 100000 in
theorem tX11_row {l : Launch} {D : va_G} {cA : Nat → ClassId} {A : Nat → Nat} (hI : InjA cN A) {a1 : Int32} {a2 : Int32} {m m' : Mm} {r : Int32} (h : fX11_row a1 a2 m = some (r, m')) : Met0 l yX11_row cX11_row 3 (some .int) { frames := 1, cells := 0, slots := 0, locals := 22 } cLay cN D cA A [.ref (A 0), .int a1, .int a2] m (some (.int r)) m' := by
  refine met0_of (by decide) (Nat.le_of_ble_eq_true rfl) hI ?_
  intro p e s m0 below meth c ls X hinit hP hS hl
  generalize ([.ref (A 0), .int a1, .int a2] : List Value).toArray = args at X ⊢
  have hl : lv_has ls 3 [(0, .ref (A 0)), (1, .int a1), (2, .int a2)] := hl
  have X : CX cLay cN D cA A p s m0 args meth c "BenchTowels" cX11_row 3 (some .int) := X
  have hx := X.1
  have hb := X.2.1
  have hml := X.2.2.1
  have hown := X.2.2.2.1
  have hts := X.2.2.2.2.1
  have hF := X.2.2.2.2.2.2.2.2.1
  rewrite [fX11_row] at h
  refine lv_aload_n hx hb dX11_row_0 rfl (lv_at hl 0 rfl) ?_
  refine lv_iload_n hx hb dX11_row_1 rfl (lv_at hl 1 rfl) ?_
  refine lv_iload_n hx hb dX11_row_2 rfl (lv_at hl 2 rfl) ?_
  obtain ⟨r_1, m_2, hc_3, h⟩ := bd_some h
  refine c_V (rest := []) X hP hS (tX11_isInRow hI  hc_3) (by decide) (L_bt _) rfl wt_4_211 wt_4_213 ws_2_6 wt_1_1 wt_4_214 ⟨rfl, hy_X11_isInRow⟩ ⟨rfl, rfl⟩ ⟨Nat.le_of_ble_eq_true rfl, Nat.le_of_ble_eq_true rfl⟩ rfl hl.1 rfl (Nat.le_of_ble_eq_true rfl) dX11_row_3 rfl (fun H locs hP hS => ?_)
  refine lv_if_eq (tgt := 20) hx hb dX11_row_6 (by decide) (fun c_4 => ?_) (fun c_4 => ?_)
  · have h := ifp c_4 h
    refine lv_bipush (v := (-9)) hx hb dX11_row_20 (by decide) ?_
    exact r_iret X hP hS dX11_row_22 h
  · have h := ifn c_4 h
    refine lv_aload_n hx hb dX11_row_9 rfl (lv_at hl 0 rfl) ?_
    refine r_get kc_11 12 X hP (by decide) (L_bt _) (by decide) rfl wt_2_107 dX11_row_10 ?_
    refine lv_iload_n hx hb dX11_row_13 rfl (lv_at hl 1 rfl) ?_
    obtain ⟨hin_5, h⟩ := gx_some h
    have q_6 := vp_lt hin_5
    refine r_row (q' := (10 + (ix a1))) X hP (by decide) (Lq_9 _) hin_5 rfl q_6 rfl dX11_row_14 ?_
    refine lv_iload_n hx hb dX11_row_15 rfl (lv_at hl 2 rfl) ?_
    obtain ⟨hin_7, h⟩ := gx_some h
    refine r_iald X hP (lt_add (j := (ix a1)) q_6 (by decide)) ((La_rows (j := (ix a1)) q_6) _) hin_7 rfl dX11_row_16 ?_
    refine lv_goto (tgt := 22) hx hb dX11_row_17 (by decide) ?_
    exact r_iret X hP hS dX11_row_22 h

def fX11_alterRow (a1 : Int32) (a2 : Int32) (a3 : Int32) (m : Mm) : Option (Int32 × Mm) := bd (fX11_isInRow a1 a2 m) fun r_1 m_2 => (if r_1 = 0 then some ((-9), m_2) else gx a1 4 (gx a2 3 (lt (m_2 (10 + (ix a1)) (ix a2)) fun x4_8 => lt (up m_2 (10 + (ix a1)) (ix a2) a3) fun m_11 => some (x4_8, m_11))))
set_option maxHeartbeats 4000000 in
set_option maxRecDepth 100000 in
theorem tX11_alterRow {l : Launch} {D : va_G} {cA : Nat → ClassId} {A : Nat → Nat} (hI : InjA cN A) {a1 : Int32} {a2 : Int32} {a3 : Int32} {m m' : Mm} {r : Int32} (h : fX11_alterRow a1 a2 a3 m = some (r, m')) : Met0 l yX11_alterRow cX11_alterRow 5 (some .int) { frames := 1, cells := 0, slots := 0, locals := 22 } cLay cN D cA A [.ref (A 0), .int a1, .int a2, .int a3] m (some (.int r)) m' := by
  refine met0_of (by decide) (Nat.le_of_ble_eq_true rfl) hI ?_
  intro p e s m0 below meth c ls X hinit hP hS hl
  generalize ([.ref (A 0), .int a1, .int a2, .int a3] : List Value).toArray = args at X ⊢
  have hl : lv_has ls 5 [(0, .ref (A 0)), (1, .int a1), (2, .int a2), (3, .int a3)] := hl
  have X : CX cLay cN D cA A p s m0 args meth c "BenchTowels" cX11_alterRow 5 (some .int) := X
  have hx := X.1
  have hb := X.2.1
  have hml := X.2.2.1
  have hown := X.2.2.2.1
  have hts := X.2.2.2.2.1
  have hF := X.2.2.2.2.2.2.2.2.1
  rewrite [fX11_alterRow] at h
  refine lv_aload_n hx hb dX11_alterRow_0 rfl (lv_at hl 0 rfl) ?_
  refine lv_iload_n hx hb dX11_alterRow_1 rfl (lv_at hl 1 rfl) ?_
  refine lv_iload_n hx hb dX11_alterRow_2 rfl (lv_at hl 2 rfl) ?_
  obtain ⟨r_1, m_2, hc_3, h⟩ := bd_some h
  refine c_V (rest := []) X hP hS (tX11_isInRow hI  hc_3) (by decide) (L_bt _) rfl wt_4_211 wt_4_213 ws_2_6 wt_1_1 wt_4_214 ⟨rfl, hy_X11_isInRow⟩ ⟨rfl, rfl⟩ ⟨Nat.le_of_ble_eq_true rfl, Nat.le_of_ble_eq_true rfl⟩ rfl hl.1 rfl (Nat.le_of_ble_eq_true rfl) dX11_alterRow_3 rfl (fun H locs hP hS => ?_)
  refine lv_if_ne (tgt := 12) hx hb dX11_alterRow_6 (by decide) (fun c_4 => ?_) (fun c_4 => ?_)
  · have h := ifn c_4 h
    refine lv_aload_n hx hb dX11_alterRow_12 rfl (lv_at hl 0 rfl) ?_
    refine r_get kc_11 12 X hP (by decide) (L_bt _) (by decide) rfl wt_2_107 dX11_alterRow_13 ?_
    refine lv_iload_n hx hb dX11_alterRow_16 rfl (lv_at hl 1 rfl) ?_
    obtain ⟨hin_5, h⟩ := gx_some h
    have q_6 := vp_lt hin_5
    refine r_row (q' := (10 + (ix a1))) X hP (by decide) (Lq_9 _) hin_5 rfl q_6 rfl dX11_alterRow_17 ?_
    refine lv_iload_n hx hb dX11_alterRow_18 rfl (lv_at hl 2 rfl) ?_
    obtain ⟨hin_7, h⟩ := gx_some h
    refine r_iald X hP (lt_add (j := (ix a1)) q_6 (by decide)) ((La_rows (j := (ix a1)) q_6) _) hin_7 rfl dX11_alterRow_19 ?_
    obtain ⟨x4_8, ex_9, h⟩ := lt_some h
    refine lv_ren ex_9 ?_
    refine lv_istore (lv' := [(4, .int x4_8), (0, .ref (A 0)), (1, .int a1), (2, .int a2), (3, .int a3)]) hx hb dX11_alterRow_20 hl (by decide) rfl (fun ls hl => ?_)
    refine lv_aload_n hx hb dX11_alterRow_22 rfl (lv_at hl 1 rfl) ?_
    refine r_get kc_11 12 X hP (by decide) (L_bt _) (by decide) rfl wt_2_107 dX11_alterRow_23 ?_
    refine lv_iload_n hx hb dX11_alterRow_26 rfl (lv_at hl 2 rfl) ?_
    have q_10 := vp_lt hin_5
    refine r_row (q' := (10 + (ix a1))) X hP (by decide) (Lq_9 _) hin_5 rfl q_10 rfl dX11_alterRow_27 ?_
    refine lv_iload_n hx hb dX11_alterRow_28 rfl (lv_at hl 3 rfl) ?_
    refine lv_iload_n hx hb dX11_alterRow_29 rfl (lv_at hl 4 rfl) ?_
    obtain ⟨m_11, em_12, h⟩ := lt_some h
    refine r_iast X hP hS (lt_add (j := (ix a1)) q_10 (by decide)) (La_rows (j := (ix a1)) q_10) hin_7 rfl dX11_alterRow_30 em_12 (fun H locs hP hS => ?_)
    refine lv_iload hx hb dX11_alterRow_31 (lv_at hl 0 rfl) ?_
    exact r_iret X hP hS dX11_alterRow_33 h
  · have h := ifp c_4 h
    refine lv_bipush (v := (-9)) hx hb dX11_alterRow_9 (by decide) ?_
    exact r_iret X hP hS dX11_alterRow_11 h

def fX11_judge_13  : Nat → Int32 → Mm → Option (Int32 × Mm)
  | 0, _, _ => none
  | n + 1, x1, m => (if ((m 0 13) : Int32) ≤ x1 then some (0, m) else gx x1 4 (lt (m (10 + (ix x1)) 0) fun x2_7 => bd (fX1_isOver 2 m) fun r_9 m_10 => (if r_9 = 0 then bd (fX1_isAct 2 x2_7 m_10) fun r_13 m_14 => (if r_13 = 0 then some ((x1 + 1), m_14) else bd (fX1_goBy 2 x2_7 m_14) fun r_17 m_18 => (if r_17 = (m_18 (10 + (ix x1)) 1) then bd (fX1_spent 2 m_18) fun r_22 m_23 => (if r_22 = (m_23 (10 + (ix x1)) 2) then lt ((x1 : Int32) + 1) fun x1_27 => (fX11_judge_13 n x1_27 m_23) else some ((x1 + 1), m_23)) else some ((x1 + 1), m_18))) else some ((x1 + 1), m_10))))
set_option maxHeartbeats 4000000 in
set_option maxRecDepth 100000 in
theorem tX11_judge_13 (hI : InjA cN A)  {r : Int32} {m' : Mm} (X : CX cLay cN D cA A p s m0 args meth c "BenchTowels" cX11_judge 3 (some .int)) : ∀ (n : Nat) (x1 : Int32) (m : Mm) (H : Heap) (locs : List Loc) (ls : Array Slot), fX11_judge_13 n x1 m = some (r, m') → va_P D vwCl (wsOf cLay cN cA A m) H → va_S (AW cN A) s.heap H locs → lv_has ls 3 [(0, .ref (A 0)), (1, .int x1)] → W p l e { frames := 5, cells := 0, slots := 0, locals := 120 } s m0 args below meth c H locs 0 0 (ZR below args s cLay cN D cA A (some (.int r)) m') (F0 m0 13 ls []) := by
  have hx := X.1
  have hb := X.2.1
  have hml := X.2.2.1
  have hown := X.2.2.2.1
  have hts := X.2.2.2.2.1
  have hF := X.2.2.2.2.2.2.2.2.1
  intro n
  induction n with
  | zero =>
    intro x1 m H locs ls h hP hS hl
    exact absurd h (by rewrite [fX11_judge_13]; exact fun q => by cases q)
  | succ n ih =>
    intro x1 m H locs ls h hP hS hl
    rewrite [fX11_judge_13] at h
    refine lv_iload_n hx hb dX11_judge_13 rfl (lv_at hl 1 rfl) ?_
    refine lv_aload_n hx hb dX11_judge_14 rfl (lv_at hl 0 rfl) ?_
    refine r_get kc_11 13 X hP (by decide) (L_bt _) (by decide) rfl wt_2_108 dX11_judge_15 ?_
    refine lv_icmp_ge (tgt := 102) hx hb dX11_judge_18 (by decide) (fun c_4 => ?_) (fun c_4 => ?_)
    · have h := ifp c_4 h
      refine lv_iconst (v := 0) hx hb dX11_judge_102 (by decide) ?_
      exact r_iret X hP hS dX11_judge_103 h
    · have h := ifn c_4 h
      refine lv_aload_n hx hb dX11_judge_21 rfl (lv_at hl 0 rfl) ?_
      refine r_get kc_11 12 X hP (by decide) (L_bt _) (by decide) rfl wt_2_107 dX11_judge_22 ?_
      refine lv_iload_n hx hb dX11_judge_25 rfl (lv_at hl 1 rfl) ?_
      obtain ⟨hin_5, h⟩ := gx_some h
      have q_6 := vp_lt hin_5
      refine r_row (q' := (10 + (ix x1))) X hP (by decide) (Lq_9 _) hin_5 rfl q_6 rfl dX11_judge_26 ?_
      refine lv_iconst (v := 0) hx hb dX11_judge_27 (by decide) ?_
      refine r_iald X hP (lt_add (j := (ix x1)) q_6 (by decide)) ((La_rows (j := (ix x1)) q_6) _) (vpc (by decide)) ixc_0 dX11_judge_28 ?_
      obtain ⟨x2_7, ex_8, h⟩ := lt_some h
      refine lv_ren ex_8 ?_
      refine lv_istore_n (lv' := [(2, .int x2_7), (0, .ref (A 0)), (1, .int x1)]) hx hb dX11_judge_29 rfl hl (by decide) rfl (fun ls hl => ?_)
      refine lv_aload_n hx hb dX11_judge_30 rfl (lv_at hl 1 rfl) ?_
      refine r_get kc_11 9 X hP (by decide) (L_bt _) (by decide) rfl wt_2_104 dX11_judge_31 ?_
      obtain ⟨r_9, m_10, hc_11, h⟩ := bd_some h
      refine c_V (rest := []) X hP hS (tX1_isOver hI (by decide) hc_11) (lt_g (by decide) (by decide)) (L_gym (by decide) _) rfl wt_3_73 wt_3_74 wt_3_75 wt_1_10 wt_3_76 ⟨rfl, hy_X1_isOver⟩ ⟨rfl, rfl⟩ ⟨Nat.le_of_ble_eq_true rfl, Nat.le_of_ble_eq_true rfl⟩ rfl hl.1 rfl (Nat.le_of_ble_eq_true rfl) dX11_judge_34 rfl (fun H locs hP hS => ?_)
      refine lv_if_ne (tgt := 51) hx hb dX11_judge_37 (by decide) (fun c_12 => ?_) (fun c_12 => ?_)
      · have h := ifn c_12 h
        refine lv_iload_n hx hb dX11_judge_51 rfl (lv_at hl 2 rfl) ?_
        refine lv_iconst (v := 1) hx hb dX11_judge_52 (by decide) ?_
        refine lv_iadd hx hb dX11_judge_53 ?_
        exact r_iret X hP hS dX11_judge_54 h
      · have h := ifp c_12 h
        refine lv_aload_n hx hb dX11_judge_40 rfl (lv_at hl 1 rfl) ?_
        refine r_get kc_11 9 X hP (by decide) (L_bt _) (by decide) rfl wt_2_104 dX11_judge_41 ?_
        refine lv_iload_n hx hb dX11_judge_44 rfl (lv_at hl 0 rfl) ?_
        obtain ⟨r_13, m_14, hc_15, h⟩ := bd_some h
        refine c_V (rest := []) X hP hS (tX1_isAct hI (by decide) hc_15) (lt_g (by decide) (by decide)) (L_gym (by decide) _) rfl wt_4_223 wt_4_224 wt_4_225 wt_1_10 wt_4_226 ⟨rfl, hy_X1_isAct⟩ ⟨rfl, rfl⟩ ⟨Nat.le_of_ble_eq_true rfl, Nat.le_of_ble_eq_true rfl⟩ rfl hl.1 rfl (Nat.le_of_ble_eq_true rfl) dX11_judge_45 rfl (fun H locs hP hS => ?_)
        refine lv_if_ne (tgt := 55) hx hb dX11_judge_48 (by decide) (fun c_16 => ?_) (fun c_16 => ?_)
        · have h := ifn c_16 h
          refine lv_aload_n hx hb dX11_judge_55 rfl (lv_at hl 1 rfl) ?_
          refine r_get kc_11 9 X hP (by decide) (L_bt _) (by decide) rfl wt_2_104 dX11_judge_56 ?_
          refine lv_iload_n hx hb dX11_judge_59 rfl (lv_at hl 0 rfl) ?_
          obtain ⟨r_17, m_18, hc_19, h⟩ := bd_some h
          refine c_V (rest := []) X hP hS (tX1_goBy hI (by decide) hc_19) (lt_g (by decide) (by decide)) (L_gym (by decide) _) rfl wt_3_218 wt_3_219 wt_3_220 wt_1_10 wt_3_221 ⟨rfl, hy_X1_goBy⟩ ⟨rfl, rfl⟩ ⟨Nat.le_of_ble_eq_true rfl, Nat.le_of_ble_eq_true rfl⟩ rfl hl.1 rfl (Nat.le_of_ble_eq_true rfl) dX11_judge_60 rfl (fun H locs hP hS => ?_)
          refine lv_aload_n hx hb dX11_judge_63 rfl (lv_at hl 1 rfl) ?_
          refine r_get kc_11 12 X hP (by decide) (L_bt _) (by decide) rfl wt_2_107 dX11_judge_64 ?_
          refine lv_iload_n hx hb dX11_judge_67 rfl (lv_at hl 2 rfl) ?_
          have q_20 := vp_lt hin_5
          refine r_row (q' := (10 + (ix x1))) X hP (by decide) (Lq_9 _) hin_5 rfl q_20 rfl dX11_judge_68 ?_
          refine lv_iconst (v := 1) hx hb dX11_judge_69 (by decide) ?_
          refine r_iald X hP (lt_add (j := (ix x1)) q_20 (by decide)) ((La_rows (j := (ix x1)) q_20) _) (vpc (by decide)) ixc_1 dX11_judge_70 ?_
          refine lv_icmp_ne (tgt := 92) hx hb dX11_judge_71 (by decide) (fun c_21 => ?_) (fun c_21 => ?_)
          · have h := ifn c_21 h
            refine lv_iload_n hx hb dX11_judge_92 rfl (lv_at hl 2 rfl) ?_
            refine lv_iconst (v := 1) hx hb dX11_judge_93 (by decide) ?_
            refine lv_iadd hx hb dX11_judge_94 ?_
            exact r_iret X hP hS dX11_judge_95 h
          · have h := ifp c_21 h
            refine lv_aload_n hx hb dX11_judge_74 rfl (lv_at hl 1 rfl) ?_
            refine r_get kc_11 9 X hP (by decide) (L_bt _) (by decide) rfl wt_2_104 dX11_judge_75 ?_
            obtain ⟨r_22, m_23, hc_24, h⟩ := bd_some h
            refine c_V (rest := []) X hP hS (tX1_spent hI (by decide) hc_24) (lt_g (by decide) (by decide)) (L_gym (by decide) _) rfl wt_3_77 wt_3_78 wt_3_79 wt_1_10 wt_3_80 ⟨rfl, hy_X1_spent⟩ ⟨rfl, rfl⟩ ⟨Nat.le_of_ble_eq_true rfl, Nat.le_of_ble_eq_true rfl⟩ rfl hl.1 rfl (Nat.le_of_ble_eq_true rfl) dX11_judge_78 rfl (fun H locs hP hS => ?_)
            refine lv_aload_n hx hb dX11_judge_81 rfl (lv_at hl 1 rfl) ?_
            refine r_get kc_11 12 X hP (by decide) (L_bt _) (by decide) rfl wt_2_107 dX11_judge_82 ?_
            refine lv_iload_n hx hb dX11_judge_85 rfl (lv_at hl 2 rfl) ?_
            have q_25 := vp_lt hin_5
            refine r_row (q' := (10 + (ix x1))) X hP (by decide) (Lq_9 _) hin_5 rfl q_25 rfl dX11_judge_86 ?_
            refine lv_iconst (v := 2) hx hb dX11_judge_87 (by decide) ?_
            refine r_iald X hP (lt_add (j := (ix x1)) q_25 (by decide)) ((La_rows (j := (ix x1)) q_25) _) (vpc (by decide)) ixc_2 dX11_judge_88 ?_
            refine lv_icmp_eq (tgt := 96) hx hb dX11_judge_89 (by decide) (fun c_26 => ?_) (fun c_26 => ?_)
            · have h := ifp c_26 h
              obtain ⟨x1_27, ex_28, h⟩ := lt_some h
              refine lv_iinc (v := x1_27) (lv' := [(1, .int x1_27), (2, .int x2_7), (0, .ref (A 0))]) hx hb dX11_judge_96 hl (k := 2) rfl (by rw [ex_28]; rfl) (by decide) rfl (fun ls hl => ?_)
              refine lv_goto (tgt := 13) hx hb dX11_judge_99 (by decide) ?_
              exact ih x1_27 m_23 _ _ _  h hP hS (lv_sub hl [2, 0] rfl)
            · have h := ifn c_26 h
              refine lv_iload_n hx hb dX11_judge_92 rfl (lv_at hl 2 rfl) ?_
              refine lv_iconst (v := 1) hx hb dX11_judge_93 (by decide) ?_
              refine lv_iadd hx hb dX11_judge_94 ?_
              exact r_iret X hP hS dX11_judge_95 h
        · have h := ifp c_16 h
          refine lv_iload_n hx hb dX11_judge_51 rfl (lv_at hl 2 rfl) ?_
          refine lv_iconst (v := 1) hx hb dX11_judge_52 (by decide) ?_
          refine lv_iadd hx hb dX11_judge_53 ?_
          exact r_iret X hP hS dX11_judge_54 h

def fX11_judge  (m : Mm) : Option (Int32 × Mm) := bd (fX1_copy 2 0 m) fun r_1 m_2 => (fX11_judge_13  FL 0 m_2)
set_option maxHeartbeats 4000000 in
set_option maxRecDepth 100000 in
theorem tX11_judge {l : Launch} {D : va_G} {cA : Nat → ClassId} {A : Nat → Nat} (hI : InjA cN A) {m m' : Mm} {r : Int32} (h : fX11_judge m = some (r, m')) : Met0 l yX11_judge cX11_judge 3 (some .int) { frames := 5, cells := 0, slots := 0, locals := 120 } cLay cN D cA A [.ref (A 0)] m (some (.int r)) m' := by
  refine met0_of (by decide) (Nat.le_of_ble_eq_true rfl) hI ?_
  intro p e s m0 below meth c ls X hinit hP hS hl
  generalize ([.ref (A 0)] : List Value).toArray = args at X ⊢
  have hl : lv_has ls 3 [(0, .ref (A 0))] := hl
  have X : CX cLay cN D cA A p s m0 args meth c "BenchTowels" cX11_judge 3 (some .int) := X
  have hx := X.1
  have hb := X.2.1
  have hml := X.2.2.1
  have hown := X.2.2.2.1
  have hts := X.2.2.2.2.1
  have hF := X.2.2.2.2.2.2.2.2.1
  rewrite [fX11_judge] at h
  refine lv_aload_n hx hb dX11_judge_0 rfl (lv_at hl 0 rfl) ?_
  refine r_get kc_11 9 X hP (by decide) (L_bt _) (by decide) rfl wt_2_104 dX11_judge_1 ?_
  refine lv_aload_n hx hb dX11_judge_4 rfl (lv_at hl 0 rfl) ?_
  refine r_get kc_11 7 X hP (by decide) (L_bt _) (by decide) rfl wt_2_102 dX11_judge_5 ?_
  obtain ⟨r_1, m_2, hc_3, h⟩ := bd_some h
  refine c_V (rest := []) X hP hS (tX1_copy hI (by decide) (by decide) hc_3) (lt_g (by decide) (by decide)) (L_gym (by decide) _) rfl wt_4_2 wt_4_3 wt_4_4 wt_1_10 wt_4_5 ⟨rfl, hy_X1_copy⟩ ⟨rfl, rfl⟩ ⟨Nat.le_of_ble_eq_true rfl, Nat.le_of_ble_eq_true rfl⟩ rfl hl.1 rfl (Nat.le_of_ble_eq_true rfl) dX11_judge_8 rfl (fun H locs hP hS => ?_)
  refine lv_iconst (v := 0) hx hb dX11_judge_11 (by decide) ?_
  refine lv_istore_n (lv' := [(1, .int 0), (0, .ref (A 0))]) hx hb dX11_judge_12 rfl hl (by decide) rfl (fun ls hl => ?_)
  exact tX11_judge_13 hI    X FL 0 m_2 _ _ _  h hP hS (lv_sub hl [1, 0] rfl)

def fX11_isSheet (a1 : Int32) (m : Mm) : Option (Int32 × Mm) := (if a1 < 0 then some (0, m) else (if (4 : Int32) ≤ a1 then some (0, m) else some (1, m)))
set_option maxHeartbeats 4000000 in
set_option maxRecDepth 100000 in
theorem tX11_isSheet {l : Launch} {D : va_G} {cA : Nat → ClassId} {A : Nat → Nat} (hI : InjA cN A) {a1 : Int32} {m m' : Mm} {r : Int32} (h : fX11_isSheet a1 m = some (r, m')) : Met0 l yX11_isSheet cX11_isSheet 1 (some .boolean) { frames := 0, cells := 0, slots := 0, locals := 0 } cLay cN D cA A [.int a1] m (some (.int r)) m' := by
  refine met0_of (by decide) (Nat.le_of_ble_eq_true rfl) hI ?_
  intro p e s m0 below meth c ls X hinit hP hS hl
  generalize ([.int a1] : List Value).toArray = args at X ⊢
  have hl : lv_has ls 1 [(0, .int a1)] := hl
  have X : CX cLay cN D cA A p s m0 args meth c "BenchTowels" cX11_isSheet 1 (some .boolean) := X
  have hx := X.1
  have hb := X.2.1
  have hml := X.2.2.1
  have hown := X.2.2.2.1
  have hts := X.2.2.2.2.1
  have hF := X.2.2.2.2.2.2.2.2.1
  rewrite [fX11_isSheet] at h
  refine lv_iload_n hx hb dX11_isSheet_0 rfl (lv_at hl 0 rfl) ?_
  refine lv_if_lt (tgt := 13) hx hb dX11_isSheet_1 (by decide) (fun c_1 => ?_) (fun c_1 => ?_)
  · have h := ifp c_1 h
    refine lv_iconst (v := 0) hx hb dX11_isSheet_13 (by decide) ?_
    exact r_zret X (Or.inl rfl) hP hS dX11_isSheet_14 h
  · have h := ifn c_1 h
    refine lv_iload_n hx hb dX11_isSheet_4 rfl (lv_at hl 0 rfl) ?_
    refine lv_iconst (v := 4) hx hb dX11_isSheet_5 (by decide) ?_
    refine lv_icmp_ge (tgt := 13) hx hb dX11_isSheet_6 (by decide) (fun c_2 => ?_) (fun c_2 => ?_)
    · have h := ifp c_2 h
      refine lv_iconst (v := 0) hx hb dX11_isSheet_13 (by decide) ?_
      exact r_zret X (Or.inl rfl) hP hS dX11_isSheet_14 h
    · have h := ifn c_2 h
      refine lv_iconst (v := 1) hx hb dX11_isSheet_9 (by decide) ?_
      refine lv_goto (tgt := 14) hx hb dX11_isSheet_10 (by decide) ?_
      exact r_zret X (Or.inr rfl) hP hS dX11_isSheet_14 h

def fX11_sheet_60  (s0 : Int32) (s1 : Int32) (s2 : Int32) (m : Mm) : Option (Int32 × Mm) := bd (fX3_lay s2 s1 s0 m) fun r_10 m_11 => some (1, m_11)
set_option maxHeartbeats 4000000 in
set_option maxRecDepth 100000 in
theorem tX11_sheet_60 (hI : InjA cN A)  {r : Int32} {m' : Mm} (X : CX cLay cN D cA A p s m0 args meth c "BenchTowels" cX11_sheet 4 (some .int)) : ∀ (s0 : Int32) (s1 : Int32) (s2 : Int32) (m : Mm) (H : Heap) (locs : List Loc) (ls : Array Slot), fX11_sheet_60 s0 s1 s2 m = some (r, m') → va_P D vwCl (wsOf cLay cN cA A m) H → va_S (AW cN A) s.heap H locs → lv_has ls 4 [] → W p l e { frames := 1, cells := 0, slots := 0, locals := 24 } s m0 args below meth c H locs 0 0 (ZR below args s cLay cN D cA A (some (.int r)) m') (F0 m0 60 ls [.int s0, .int s1, .int s2, .ref (A 52)]) := by
  have hx := X.1
  have hb := X.2.1
  have hml := X.2.2.1
  have hown := X.2.2.2.1
  have hts := X.2.2.2.2.1
  have hF := X.2.2.2.2.2.2.2.2.1
  intro s0 s1 s2 m H locs ls h hP hS hl
  rewrite [fX11_sheet_60] at h
  obtain ⟨r_10, m_11, hc_12, h⟩ := bd_some h
  refine c_V (rest := []) X hP hS (tX3_lay hI  hc_12) (by decide) (L_host _) rfl wt_4_234 wt_4_235 wt_4_236 wt_1_12 wt_4_237 ⟨rfl, hy_X3_lay⟩ ⟨rfl, rfl⟩ ⟨Nat.le_of_ble_eq_true rfl, Nat.le_of_ble_eq_true rfl⟩ rfl hl.1 rfl (Nat.le_of_ble_eq_true rfl) dX11_sheet_60 rfl (fun H locs hP hS => ?_)
  refine lv_iconst (v := 1) hx hb dX11_sheet_63 (by decide) ?_
  exact r_iret X hP hS dX11_sheet_64 h

def fX11_sheet_44  (x1 : Int32) (x2 : Int32) (x3 : Int32) (m : Mm) : Option (Int32 × Mm) := (if x2 = (-1) then (fX11_sheet_60  0 x2 x1 m) else (fX11_sheet_60  x3 x2 x1 m))
set_option maxHeartbeats 4000000 in
set_option maxRecDepth 100000 in
theorem tX11_sheet_44 (hI : InjA cN A)  {r : Int32} {m' : Mm} (X : CX cLay cN D cA A p s m0 args meth c "BenchTowels" cX11_sheet 4 (some .int)) : ∀ (x1 : Int32) (x2 : Int32) (x3 : Int32) (m : Mm) (H : Heap) (locs : List Loc) (ls : Array Slot), fX11_sheet_44 x1 x2 x3 m = some (r, m') → va_P D vwCl (wsOf cLay cN cA A m) H → va_S (AW cN A) s.heap H locs → lv_has ls 4 [(0, .ref (A 0)), (1, .int x1), (2, .int x2), (3, .int x3)] → W p l e { frames := 1, cells := 0, slots := 0, locals := 24 } s m0 args below meth c H locs 0 0 (ZR below args s cLay cN D cA A (some (.int r)) m') (F0 m0 44 ls []) := by
  have hx := X.1
  have hb := X.2.1
  have hml := X.2.2.1
  have hown := X.2.2.2.1
  have hts := X.2.2.2.2.1
  have hF := X.2.2.2.2.2.2.2.2.1
  intro x1 x2 x3 m H locs ls h hP hS hl
  rewrite [fX11_sheet_44] at h
  refine lv_aload_n hx hb dX11_sheet_44 rfl (lv_at hl 0 rfl) ?_
  refine r_get kc_11 11 X hP (by decide) (L_bt _) (by decide) rfl wt_2_106 dX11_sheet_45 ?_
  refine lv_iload_n hx hb dX11_sheet_48 rfl (lv_at hl 1 rfl) ?_
  refine lv_iload_n hx hb dX11_sheet_49 rfl (lv_at hl 2 rfl) ?_
  refine lv_iload_n hx hb dX11_sheet_50 rfl (lv_at hl 2 rfl) ?_
  refine lv_iconst (v := (-1)) hx hb dX11_sheet_51 (by decide) ?_
  refine lv_icmp_ne (tgt := 59) hx hb dX11_sheet_52 (by decide) (fun c_9 => ?_) (fun c_9 => ?_)
  · have h := ifn c_9 h
    refine lv_iload_n hx hb dX11_sheet_59 rfl (lv_at hl 3 rfl) ?_
    exact tX11_sheet_60 hI    X x3 x2 x1 m _ _ _  h hP hS (lv_sub hl [] rfl)
  · have h := ifp c_9 h
    refine lv_iconst (v := 0) hx hb dX11_sheet_55 (by decide) ?_
    refine lv_goto (tgt := 60) hx hb dX11_sheet_56 (by decide) ?_
    exact tX11_sheet_60 hI    X 0 x2 x1 m _ _ _  h hP hS (lv_sub hl [] rfl)

def fX11_sheet_32  (x1 : Int32) (x2 : Int32) (x3 : Int32) (m : Mm) : Option (Int32 × Mm) := (if x2 = (-1) then fX11_sheet_44  x1 x2 x3 m else (if (0 : Int32) ≤ x3 then fX11_sheet_44  x1 x2 x3 m else some ((-14), m)))
set_option maxHeartbeats 4000000 in
set_option maxRecDepth 100000 in
theorem tX11_sheet_32 (hI : InjA cN A)  {r : Int32} {m' : Mm} (X : CX cLay cN D cA A p s m0 args meth c "BenchTowels" cX11_sheet 4 (some .int)) : ∀ (x1 : Int32) (x2 : Int32) (x3 : Int32) (m : Mm) (H : Heap) (locs : List Loc) (ls : Array Slot), fX11_sheet_32 x1 x2 x3 m = some (r, m') → va_P D vwCl (wsOf cLay cN cA A m) H → va_S (AW cN A) s.heap H locs → lv_has ls 4 [(0, .ref (A 0)), (1, .int x1), (2, .int x2), (3, .int x3)] → W p l e { frames := 1, cells := 0, slots := 0, locals := 24 } s m0 args below meth c H locs 0 0 (ZR below args s cLay cN D cA A (some (.int r)) m') (F0 m0 32 ls []) := by
  have hx := X.1
  have hb := X.2.1
  have hml := X.2.2.1
  have hown := X.2.2.2.1
  have hts := X.2.2.2.2.1
  have hF := X.2.2.2.2.2.2.2.2.1
  intro x1 x2 x3 m H locs ls h hP hS hl
  rewrite [fX11_sheet_32] at h
  refine lv_iload_n hx hb dX11_sheet_32 rfl (lv_at hl 2 rfl) ?_
  refine lv_iconst (v := (-1)) hx hb dX11_sheet_33 (by decide) ?_
  refine lv_icmp_eq (tgt := 44) hx hb dX11_sheet_34 (by decide) (fun c_8 => ?_) (fun c_8 => ?_)
  · have h := ifp c_8 h
    exact tX11_sheet_44 hI    X x1 x2 x3 m _ _ _  h hP hS (lv_sub hl [0, 1, 2, 3] rfl)
  · have h := ifn c_8 h
    refine lv_iload_n hx hb dX11_sheet_37 rfl (lv_at hl 3 rfl) ?_
    refine lv_if_ge (tgt := 44) hx hb dX11_sheet_38 (by decide) (fun c_13 => ?_) (fun c_13 => ?_)
    · have h := ifp c_13 h
      exact tX11_sheet_44 hI    X x1 x2 x3 m _ _ _  h hP hS (lv_sub hl [0, 1, 2, 3] rfl)
    · have h := ifn c_13 h
      refine lv_bipush (v := (-14)) hx hb dX11_sheet_41 (by decide) ?_
      exact r_iret X hP hS dX11_sheet_43 h

def fX11_sheet (a1 : Int32) (a2 : Int32) (a3 : Int32) (m : Mm) : Option (Int32 × Mm) := bd (fX11_isSheet a1 m) fun r_1 m_2 => (if r_1 = 0 then some ((-1), m_2) else (if a2 < (-1) then some ((-1), m_2) else (if a2 ≤ 4 then (if a2 = (-1) then fX11_sheet_32  a1 a2 a3 m_2 else (if a3 ≤ 40 then fX11_sheet_32  a1 a2 a3 m_2 else some ((-1), m_2))) else some ((-1), m_2))))
set_option maxHeartbeats 4000000 in
set_option maxRecDepth 100000 in
theorem tX11_sheet {l : Launch} {D : va_G} {cA : Nat → ClassId} {A : Nat → Nat} (hI : InjA cN A) {a1 : Int32} {a2 : Int32} {a3 : Int32} {m m' : Mm} {r : Int32} (h : fX11_sheet a1 a2 a3 m = some (r, m')) : Met0 l yX11_sheet cX11_sheet 4 (some .int) { frames := 1, cells := 0, slots := 0, locals := 24 } cLay cN D cA A [.ref (A 0), .int a1, .int a2, .int a3] m (some (.int r)) m' := by
  refine met0_of (by decide) (Nat.le_of_ble_eq_true rfl) hI ?_
  intro p e s m0 below meth c ls X hinit hP hS hl
  generalize ([.ref (A 0), .int a1, .int a2, .int a3] : List Value).toArray = args at X ⊢
  have hl : lv_has ls 4 [(0, .ref (A 0)), (1, .int a1), (2, .int a2), (3, .int a3)] := hl
  have X : CX cLay cN D cA A p s m0 args meth c "BenchTowels" cX11_sheet 4 (some .int) := X
  have hx := X.1
  have hb := X.2.1
  have hml := X.2.2.1
  have hown := X.2.2.2.1
  have hts := X.2.2.2.2.1
  have hF := X.2.2.2.2.2.2.2.2.1
  rewrite [fX11_sheet] at h
  refine lv_iload_n hx hb dX11_sheet_0 rfl (lv_at hl 1 rfl) ?_
  obtain ⟨r_1, m_2, hc_3, h⟩ := bd_some h
  refine c_S (rest := []) X hP hS (tX11_isSheet hI  hc_3) wt_4_231 wt_4_232 wt_1_1 wt_4_233 hy_X11_isSheet ⟨rfl, rfl⟩ ⟨Nat.le_of_ble_eq_true rfl, Nat.le_of_ble_eq_true rfl⟩ rfl hl.1 rfl (Nat.le_of_ble_eq_true rfl) dX11_sheet_1 rfl (fun H locs hP hS => ?_)
  refine lv_if_eq (tgt := 17) hx hb dX11_sheet_4 (by decide) (fun c_4 => ?_) (fun c_4 => ?_)
  · have h := ifp c_4 h
    refine lv_iconst (v := (-1)) hx hb dX11_sheet_17 (by decide) ?_
    exact r_iret X hP hS dX11_sheet_18 h
  · have h := ifn c_4 h
    refine lv_iload_n hx hb dX11_sheet_7 rfl (lv_at hl 2 rfl) ?_
    refine lv_iconst (v := (-1)) hx hb dX11_sheet_8 (by decide) ?_
    refine lv_icmp_lt (tgt := 17) hx hb dX11_sheet_9 (by decide) (fun c_5 => ?_) (fun c_5 => ?_)
    · have h := ifp c_5 h
      refine lv_iconst (v := (-1)) hx hb dX11_sheet_17 (by decide) ?_
      exact r_iret X hP hS dX11_sheet_18 h
    · have h := ifn c_5 h
      refine lv_iload_n hx hb dX11_sheet_12 rfl (lv_at hl 2 rfl) ?_
      refine lv_iconst (v := 4) hx hb dX11_sheet_13 (by decide) ?_
      refine lv_icmp_le (tgt := 19) hx hb dX11_sheet_14 (by decide) (fun c_6 => ?_) (fun c_6 => ?_)
      · have h := ifp c_6 h
        refine lv_iload_n hx hb dX11_sheet_19 rfl (lv_at hl 2 rfl) ?_
        refine lv_iconst (v := (-1)) hx hb dX11_sheet_20 (by decide) ?_
        refine lv_icmp_eq (tgt := 32) hx hb dX11_sheet_21 (by decide) (fun c_7 => ?_) (fun c_7 => ?_)
        · have h := ifp c_7 h
          exact tX11_sheet_32 hI    X a1 a2 a3 m_2 _ _ _  h hP hS (lv_sub hl [0, 1, 2, 3] rfl)
        · have h := ifn c_7 h
          refine lv_iload_n hx hb dX11_sheet_24 rfl (lv_at hl 3 rfl) ?_
          refine lv_bipush (v := 40) hx hb dX11_sheet_25 (by decide) ?_
          refine lv_icmp_le (tgt := 32) hx hb dX11_sheet_27 (by decide) (fun c_14 => ?_) (fun c_14 => ?_)
          · have h := ifp c_14 h
            exact tX11_sheet_32 hI    X a1 a2 a3 m_2 _ _ _  h hP hS (lv_sub hl [0, 1, 2, 3] rfl)
          · have h := ifn c_14 h
            refine lv_iconst (v := (-1)) hx hb dX11_sheet_30 (by decide) ?_
            exact r_iret X hP hS dX11_sheet_31 h
      · have h := ifn c_6 h
        refine lv_iconst (v := (-1)) hx hb dX11_sheet_17 (by decide) ?_
        exact r_iret X hP hS dX11_sheet_18 h

def fX11_write (a1 : Int32) (a2 : Int32) (a3 : Int32) (m : Mm) : Option (Int32 × Mm) := bd (fX11_isSheet a1 m) fun r_1 m_2 => (if r_1 = 0 then some ((-1), m_2) else gx a1 4 ((if (m_2 53 (ix a1)) = (-1) then some ((-11), m_2) else bd (fX3_hasItem a1 a2 m_2) fun r_7 m_8 => (if r_7 = 0 then some ((-12), m_8) else bd (fX3_narrowed (m_8 53 (ix a1)) a3 m_8) fun r_12 m_13 => gx a2 40 (lt (up m_13 (56 + (ix a1)) (ix a2) r_12) fun m_16 => some (1, m_16))))))
set_option maxHeartbeats 4000000 in
set_option maxRecDepth 100000 in
theorem tX11_write {l : Launch} {D : va_G} {cA : Nat → ClassId} {A : Nat → Nat} (hI : InjA cN A) {a1 : Int32} {a2 : Int32} {a3 : Int32} {m m' : Mm} {r : Int32} (h : fX11_write a1 a2 a3 m = some (r, m')) : Met0 l yX11_write cX11_write 4 (some .int) { frames := 1, cells := 0, slots := 0, locals := 22 } cLay cN D cA A [.ref (A 0), .int a1, .int a2, .int a3] m (some (.int r)) m' := by
  refine met0_of (by decide) (Nat.le_of_ble_eq_true rfl) hI ?_
  intro p e s m0 below meth c ls X hinit hP hS hl
  generalize ([.ref (A 0), .int a1, .int a2, .int a3] : List Value).toArray = args at X ⊢
  have hl : lv_has ls 4 [(0, .ref (A 0)), (1, .int a1), (2, .int a2), (3, .int a3)] := hl
  have X : CX cLay cN D cA A p s m0 args meth c "BenchTowels" cX11_write 4 (some .int) := X
  have hx := X.1
  have hb := X.2.1
  have hml := X.2.2.1
  have hown := X.2.2.2.1
  have hts := X.2.2.2.2.1
  have hF := X.2.2.2.2.2.2.2.2.1
  rewrite [fX11_write] at h
  refine lv_iload_n hx hb dX11_write_0 rfl (lv_at hl 1 rfl) ?_
  obtain ⟨r_1, m_2, hc_3, h⟩ := bd_some h
  refine c_S (rest := []) X hP hS (tX11_isSheet hI  hc_3) wt_4_231 wt_4_232 wt_1_1 wt_4_233 hy_X11_isSheet ⟨rfl, rfl⟩ ⟨Nat.le_of_ble_eq_true rfl, Nat.le_of_ble_eq_true rfl⟩ rfl hl.1 rfl (Nat.le_of_ble_eq_true rfl) dX11_write_1 rfl (fun H locs hP hS => ?_)
  refine lv_if_ne (tgt := 9) hx hb dX11_write_4 (by decide) (fun c_4 => ?_) (fun c_4 => ?_)
  · have h := ifn c_4 h
    refine lv_aload_n hx hb dX11_write_9 rfl (lv_at hl 0 rfl) ?_
    refine r_get kc_11 11 X hP (by decide) (L_bt _) (by decide) rfl wt_2_106 dX11_write_10 ?_
    refine r_get kc_3 1 X hP (by decide) (L_host _) (by decide) rfl wt_2_47 dX11_write_13 ?_
    refine lv_iload_n hx hb dX11_write_16 rfl (lv_at hl 1 rfl) ?_
    obtain ⟨hin_5, h⟩ := gx_some h
    refine r_iald X hP (by decide) (La_53 _) hin_5 rfl dX11_write_17 ?_
    refine lv_iconst (v := (-1)) hx hb dX11_write_18 (by decide) ?_
    refine lv_icmp_ne (tgt := 25) hx hb dX11_write_19 (by decide) (fun c_6 => ?_) (fun c_6 => ?_)
    · have h := ifn c_6 h
      refine lv_aload_n hx hb dX11_write_25 rfl (lv_at hl 0 rfl) ?_
      refine r_get kc_11 11 X hP (by decide) (L_bt _) (by decide) rfl wt_2_106 dX11_write_26 ?_
      refine lv_iload_n hx hb dX11_write_29 rfl (lv_at hl 1 rfl) ?_
      refine lv_iload_n hx hb dX11_write_30 rfl (lv_at hl 2 rfl) ?_
      obtain ⟨r_7, m_8, hc_9, h⟩ := bd_some h
      refine c_V (rest := []) X hP hS (tX3_hasItem hI  hc_9) (by decide) (L_host _) rfl wt_5_2 wt_5_3 wt_5_4 wt_1_12 wt_5_5 ⟨rfl, hy_X3_hasItem⟩ ⟨rfl, rfl⟩ ⟨Nat.le_of_ble_eq_true rfl, Nat.le_of_ble_eq_true rfl⟩ rfl hl.1 rfl (Nat.le_of_ble_eq_true rfl) dX11_write_31 rfl (fun H locs hP hS => ?_)
      refine lv_if_ne (tgt := 40) hx hb dX11_write_34 (by decide) (fun c_10 => ?_) (fun c_10 => ?_)
      · have h := ifn c_10 h
        refine lv_aload_n hx hb dX11_write_40 rfl (lv_at hl 0 rfl) ?_
        refine r_get kc_11 11 X hP (by decide) (L_bt _) (by decide) rfl wt_2_106 dX11_write_41 ?_
        refine r_get kc_3 3 X hP (by decide) (L_host _) (by decide) rfl wt_2_50 dX11_write_44 ?_
        refine lv_iload_n hx hb dX11_write_47 rfl (lv_at hl 1 rfl) ?_
        have q_11 := vp_lt hin_5
        refine r_row (q' := (56 + (ix a1))) X hP (by decide) (Lq_55 _) hin_5 rfl q_11 rfl dX11_write_48 ?_
        refine lv_iload_n hx hb dX11_write_49 rfl (lv_at hl 2 rfl) ?_
        refine lv_aload_n hx hb dX11_write_50 rfl (lv_at hl 0 rfl) ?_
        refine r_get kc_11 11 X hP (by decide) (L_bt _) (by decide) rfl wt_2_106 dX11_write_51 ?_
        refine lv_aload_n hx hb dX11_write_54 rfl (lv_at hl 0 rfl) ?_
        refine r_get kc_11 11 X hP (by decide) (L_bt _) (by decide) rfl wt_2_106 dX11_write_55 ?_
        refine r_get kc_3 1 X hP (by decide) (L_host _) (by decide) rfl wt_2_47 dX11_write_58 ?_
        refine lv_iload_n hx hb dX11_write_61 rfl (lv_at hl 1 rfl) ?_
        refine r_iald X hP (by decide) (La_53 _) hin_5 rfl dX11_write_62 ?_
        refine lv_iload_n hx hb dX11_write_63 rfl (lv_at hl 3 rfl) ?_
        obtain ⟨r_12, m_13, hc_14, h⟩ := bd_some h
        refine c_V (rest := [.int a2, .ref (A (56 + (ix a1)))]) X hP hS (tX3_narrowed hI  hc_14) (by decide) (L_host _) rfl wt_5_6 wt_5_7 wt_5_8 wt_1_12 wt_5_9 ⟨rfl, hy_X3_narrowed⟩ ⟨rfl, rfl⟩ ⟨Nat.le_of_ble_eq_true rfl, Nat.le_of_ble_eq_true rfl⟩ rfl hl.1 rfl (Nat.le_of_ble_eq_true rfl) dX11_write_64 rfl (fun H locs hP hS => ?_)
        obtain ⟨hin_15, h⟩ := gx_some h
        obtain ⟨m_16, em_17, h⟩ := lt_some h
        refine r_iast X hP hS (lt_add56 (j := (ix a1)) q_11) (La_item (j := (ix a1)) q_11) hin_15 rfl dX11_write_67 em_17 (fun H locs hP hS => ?_)
        refine lv_iconst (v := 1) hx hb dX11_write_68 (by decide) ?_
        exact r_iret X hP hS dX11_write_69 h
      · have h := ifp c_10 h
        refine lv_bipush (v := (-12)) hx hb dX11_write_37 (by decide) ?_
        exact r_iret X hP hS dX11_write_39 h
    · have h := ifp c_6 h
      refine lv_bipush (v := (-11)) hx hb dX11_write_22 (by decide) ?_
      exact r_iret X hP hS dX11_write_24 h
  · have h := ifp c_4 h
    refine lv_iconst (v := (-1)) hx hb dX11_write_7 (by decide) ?_
    exact r_iret X hP hS dX11_write_8 h

def fX11_item (a1 : Int32) (a2 : Int32) (a3 : Int32) (m : Mm) : Option (Int32 × Mm) := bd (fX11_isSheet a1 m) fun r_1 m_2 => (if r_1 = 0 then some ((-1), m_2) else (if a2 < 0 then some ((-1), m_2) else (if a2 ≤ 4 then bd (fX3_refusal a1 a2 m_2) fun r_7 m_8 => (if (0 : Int32) ≤ r_7 then bd (fX3_hasItem a1 a3 m_8) fun r_11 m_12 => (if r_11 = 0 then some ((-12), m_12) else gx a1 4 (gx a3 40 (some ((m_12 (56 + (ix a1)) (ix a3)), m_12)))) else some (r_7, m_8)) else some ((-1), m_2))))
set_option maxHeartbeats 4000000 in
set_option maxRecDepth 100000 in
theorem tX11_item {l : Launch} {D : va_G} {cA : Nat → ClassId} {A : Nat → Nat} (hI : InjA cN A) {a1 : Int32} {a2 : Int32} {a3 : Int32} {m m' : Mm} {r : Int32} (h : fX11_item a1 a2 a3 m = some (r, m')) : Met0 l yX11_item cX11_item 5 (some .int) { frames := 1, cells := 0, slots := 0, locals := 22 } cLay cN D cA A [.ref (A 0), .int a1, .int a2, .int a3] m (some (.int r)) m' := by
  refine met0_of (by decide) (Nat.le_of_ble_eq_true rfl) hI ?_
  intro p e s m0 below meth c ls X hinit hP hS hl
  generalize ([.ref (A 0), .int a1, .int a2, .int a3] : List Value).toArray = args at X ⊢
  have hl : lv_has ls 5 [(0, .ref (A 0)), (1, .int a1), (2, .int a2), (3, .int a3)] := hl
  have X : CX cLay cN D cA A p s m0 args meth c "BenchTowels" cX11_item 5 (some .int) := X
  have hx := X.1
  have hb := X.2.1
  have hml := X.2.2.1
  have hown := X.2.2.2.1
  have hts := X.2.2.2.2.1
  have hF := X.2.2.2.2.2.2.2.2.1
  rewrite [fX11_item] at h
  refine lv_iload_n hx hb dX11_item_0 rfl (lv_at hl 1 rfl) ?_
  obtain ⟨r_1, m_2, hc_3, h⟩ := bd_some h
  refine c_S (rest := []) X hP hS (tX11_isSheet hI  hc_3) wt_4_231 wt_4_232 wt_1_1 wt_4_233 hy_X11_isSheet ⟨rfl, rfl⟩ ⟨Nat.le_of_ble_eq_true rfl, Nat.le_of_ble_eq_true rfl⟩ rfl hl.1 rfl (Nat.le_of_ble_eq_true rfl) dX11_item_1 rfl (fun H locs hP hS => ?_)
  refine lv_if_eq (tgt := 16) hx hb dX11_item_4 (by decide) (fun c_4 => ?_) (fun c_4 => ?_)
  · have h := ifp c_4 h
    refine lv_iconst (v := (-1)) hx hb dX11_item_16 (by decide) ?_
    exact r_iret X hP hS dX11_item_17 h
  · have h := ifn c_4 h
    refine lv_iload_n hx hb dX11_item_7 rfl (lv_at hl 2 rfl) ?_
    refine lv_if_lt (tgt := 16) hx hb dX11_item_8 (by decide) (fun c_5 => ?_) (fun c_5 => ?_)
    · have h := ifp c_5 h
      refine lv_iconst (v := (-1)) hx hb dX11_item_16 (by decide) ?_
      exact r_iret X hP hS dX11_item_17 h
    · have h := ifn c_5 h
      refine lv_iload_n hx hb dX11_item_11 rfl (lv_at hl 2 rfl) ?_
      refine lv_iconst (v := 4) hx hb dX11_item_12 (by decide) ?_
      refine lv_icmp_le (tgt := 18) hx hb dX11_item_13 (by decide) (fun c_6 => ?_) (fun c_6 => ?_)
      · have h := ifp c_6 h
        refine lv_aload_n hx hb dX11_item_18 rfl (lv_at hl 0 rfl) ?_
        refine r_get kc_11 11 X hP (by decide) (L_bt _) (by decide) rfl wt_2_106 dX11_item_19 ?_
        refine lv_iload_n hx hb dX11_item_22 rfl (lv_at hl 1 rfl) ?_
        refine lv_iload_n hx hb dX11_item_23 rfl (lv_at hl 2 rfl) ?_
        obtain ⟨r_7, m_8, hc_9, h⟩ := bd_some h
        refine c_V (rest := []) X hP hS (tX3_refusal hI  hc_9) (by decide) (L_host _) rfl wt_5_14 wt_5_15 wt_5_16 wt_1_12 wt_5_17 ⟨rfl, hy_X3_refusal⟩ ⟨rfl, rfl⟩ ⟨Nat.le_of_ble_eq_true rfl, Nat.le_of_ble_eq_true rfl⟩ rfl hl.1 rfl (Nat.le_of_ble_eq_true rfl) dX11_item_24 rfl (fun H locs hP hS => ?_)
        refine lv_istore (lv' := [(4, .int r_7), (0, .ref (A 0)), (1, .int a1), (2, .int a2), (3, .int a3)]) hx hb dX11_item_27 hl (by decide) rfl (fun ls hl => ?_)
        refine lv_iload hx hb dX11_item_29 (lv_at hl 0 rfl) ?_
        refine lv_if_ge (tgt := 37) hx hb dX11_item_31 (by decide) (fun c_10 => ?_) (fun c_10 => ?_)
        · have h := ifp c_10 h
          refine lv_aload_n hx hb dX11_item_37 rfl (lv_at hl 1 rfl) ?_
          refine r_get kc_11 11 X hP (by decide) (L_bt _) (by decide) rfl wt_2_106 dX11_item_38 ?_
          refine lv_iload_n hx hb dX11_item_41 rfl (lv_at hl 2 rfl) ?_
          refine lv_iload_n hx hb dX11_item_42 rfl (lv_at hl 4 rfl) ?_
          obtain ⟨r_11, m_12, hc_13, h⟩ := bd_some h
          refine c_V (rest := []) X hP hS (tX3_hasItem hI  hc_13) (by decide) (L_host _) rfl wt_5_2 wt_5_3 wt_5_4 wt_1_12 wt_5_5 ⟨rfl, hy_X3_hasItem⟩ ⟨rfl, rfl⟩ ⟨Nat.le_of_ble_eq_true rfl, Nat.le_of_ble_eq_true rfl⟩ rfl hl.1 rfl (Nat.le_of_ble_eq_true rfl) dX11_item_43 rfl (fun H locs hP hS => ?_)
          refine lv_if_eq (tgt := 63) hx hb dX11_item_46 (by decide) (fun c_14 => ?_) (fun c_14 => ?_)
          · have h := ifp c_14 h
            refine lv_bipush (v := (-12)) hx hb dX11_item_63 (by decide) ?_
            exact r_iret X hP hS dX11_item_65 h
          · have h := ifn c_14 h
            refine lv_aload_n hx hb dX11_item_49 rfl (lv_at hl 1 rfl) ?_
            refine r_get kc_11 11 X hP (by decide) (L_bt _) (by decide) rfl wt_2_106 dX11_item_50 ?_
            refine r_get kc_3 3 X hP (by decide) (L_host _) (by decide) rfl wt_2_50 dX11_item_53 ?_
            refine lv_iload_n hx hb dX11_item_56 rfl (lv_at hl 2 rfl) ?_
            obtain ⟨hin_15, h⟩ := gx_some h
            have q_16 := vp_lt hin_15
            refine r_row (q' := (56 + (ix a1))) X hP (by decide) (Lq_55 _) hin_15 rfl q_16 rfl dX11_item_57 ?_
            refine lv_iload_n hx hb dX11_item_58 rfl (lv_at hl 4 rfl) ?_
            obtain ⟨hin_17, h⟩ := gx_some h
            refine r_iald X hP (lt_add56 (j := (ix a1)) q_16) ((La_item (j := (ix a1)) q_16) _) hin_17 rfl dX11_item_59 ?_
            refine lv_goto (tgt := 65) hx hb dX11_item_60 (by decide) ?_
            exact r_iret X hP hS dX11_item_65 h
        · have h := ifn c_10 h
          refine lv_iload hx hb dX11_item_34 (lv_at hl 0 rfl) ?_
          exact r_iret X hP hS dX11_item_36 h
      · have h := ifn c_6 h
        refine lv_iconst (v := (-1)) hx hb dX11_item_16 (by decide) ?_
        exact r_iret X hP hS dX11_item_17 h

def fX11_goAll_44  : Nat → Int32 → Int32 → Int32 → Int32 → Int32 → Mm → Option (Int32 × Mm)
  | 0, _, _, _, _, _, _ => none
  | n + 1, x1, x2, x3, x5, x6, m => (if (x3 : Int32) ≤ x6 then some (x5, m) else bd (fX3_hasItem x1 (x2 + x6) m) fun r_12 m_13 => (if r_12 = 0 then some ((-12), m_13) else gx x1 4 (gx (x2 + x6) 40 (lt (m_13 (56 + (ix x1)) (ix (x2 + x6))) fun x7_19 => bd (fX1_isAct 0 x7_19 m_13) fun r_21 m_22 => (if r_21 = 0 then lt ((x6 : Int32) + 1) fun x6_25 => (fX11_goAll_44 n x1 x2 x3 x5 x6_25 m_22) else bd (fX1_isOver 0 m_22) fun r_27 m_28 => (if r_27 = 0 then bd (fX1_goBy 0 x7_19 m_28) fun r_33 m_34 => lt (x5 + r_33) fun x5_36 => lt ((x6 : Int32) + 1) fun x6_38 => (fX11_goAll_44 n x1 x2 x3 x5_36 x6_38 m_34) else lt ((x6 : Int32) + 1) fun x6_31 => (fX11_goAll_44 n x1 x2 x3 x5 x6_31 m_28)))))))
set_option maxHeartbeats 4000000 in
set_option maxRecDepth 100000 in
theorem tX11_goAll_44 (hI : InjA cN A)  {r : Int32} {m' : Mm} (X : CX cLay cN D cA A p s m0 args meth c "BenchTowels" cX11_goAll 8 (some .int)) : ∀ (n : Nat) (x1 : Int32) (x2 : Int32) (x3 : Int32) (x5 : Int32) (x6 : Int32) (m : Mm) (H : Heap) (locs : List Loc) (ls : Array Slot), fX11_goAll_44 n x1 x2 x3 x5 x6 m = some (r, m') → va_P D vwCl (wsOf cLay cN cA A m) H → va_S (AW cN A) s.heap H locs → lv_has ls 8 [(0, .ref (A 0)), (1, .int x1), (2, .int x2), (3, .int x3), (5, .int x5), (6, .int x6)] → W p l e { frames := 5, cells := 0, slots := 0, locals := 120 } s m0 args below meth c H locs 0 0 (ZR below args s cLay cN D cA A (some (.int r)) m') (F0 m0 44 ls []) := by
  have hx := X.1
  have hb := X.2.1
  have hml := X.2.2.1
  have hown := X.2.2.2.1
  have hts := X.2.2.2.2.1
  have hF := X.2.2.2.2.2.2.2.2.1
  intro n
  induction n with
  | zero =>
    intro x1 x2 x3 x5 x6 m H locs ls h hP hS hl
    exact absurd h (by rewrite [fX11_goAll_44]; exact fun q => by cases q)
  | succ n ih =>
    intro x1 x2 x3 x5 x6 m H locs ls h hP hS hl
    rewrite [fX11_goAll_44] at h
    refine lv_iload hx hb dX11_goAll_44 (lv_at hl 5 rfl) ?_
    refine lv_iload_n hx hb dX11_goAll_46 rfl (lv_at hl 3 rfl) ?_
    refine lv_icmp_ge (tgt := 126) hx hb dX11_goAll_47 (by decide) (fun c_11 => ?_) (fun c_11 => ?_)
    · have h := ifp c_11 h
      refine lv_iload hx hb dX11_goAll_126 (lv_at hl 4 rfl) ?_
      exact r_iret X hP hS dX11_goAll_128 h
    · have h := ifn c_11 h
      refine lv_aload_n hx hb dX11_goAll_50 rfl (lv_at hl 0 rfl) ?_
      refine r_get kc_11 11 X hP (by decide) (L_bt _) (by decide) rfl wt_2_106 dX11_goAll_51 ?_
      refine lv_iload_n hx hb dX11_goAll_54 rfl (lv_at hl 1 rfl) ?_
      refine lv_iload_n hx hb dX11_goAll_55 rfl (lv_at hl 2 rfl) ?_
      refine lv_iload hx hb dX11_goAll_56 (lv_at hl 5 rfl) ?_
      refine lv_iadd hx hb dX11_goAll_58 ?_
      obtain ⟨r_12, m_13, hc_14, h⟩ := bd_some h
      refine c_V (rest := []) X hP hS (tX3_hasItem hI  hc_14) (by decide) (L_host _) rfl wt_5_2 wt_5_3 wt_5_4 wt_1_12 wt_5_5 ⟨rfl, hy_X3_hasItem⟩ ⟨rfl, rfl⟩ ⟨Nat.le_of_ble_eq_true rfl, Nat.le_of_ble_eq_true rfl⟩ rfl hl.1 rfl (Nat.le_of_ble_eq_true rfl) dX11_goAll_59 rfl (fun H locs hP hS => ?_)
      refine lv_if_ne (tgt := 68) hx hb dX11_goAll_62 (by decide) (fun c_15 => ?_) (fun c_15 => ?_)
      · have h := ifn c_15 h
        refine lv_aload_n hx hb dX11_goAll_68 rfl (lv_at hl 0 rfl) ?_
        refine r_get kc_11 11 X hP (by decide) (L_bt _) (by decide) rfl wt_2_106 dX11_goAll_69 ?_
        refine r_get kc_3 3 X hP (by decide) (L_host _) (by decide) rfl wt_2_50 dX11_goAll_72 ?_
        refine lv_iload_n hx hb dX11_goAll_75 rfl (lv_at hl 1 rfl) ?_
        obtain ⟨hin_16, h⟩ := gx_some h
        have q_17 := vp_lt hin_16
        refine r_row (q' := (56 + (ix x1))) X hP (by decide) (Lq_55 _) hin_16 rfl q_17 rfl dX11_goAll_76 ?_
        refine lv_iload_n hx hb dX11_goAll_77 rfl (lv_at hl 2 rfl) ?_
        refine lv_iload hx hb dX11_goAll_78 (lv_at hl 5 rfl) ?_
        refine lv_iadd hx hb dX11_goAll_80 ?_
        obtain ⟨hin_18, h⟩ := gx_some h
        refine r_iald X hP (lt_add56 (j := (ix x1)) q_17) ((La_item (j := (ix x1)) q_17) _) hin_18 rfl dX11_goAll_81 ?_
        obtain ⟨x7_19, ex_20, h⟩ := lt_some h
        refine lv_ren ex_20 ?_
        refine lv_istore (lv' := [(7, .int x7_19), (0, .ref (A 0)), (1, .int x1), (2, .int x2), (3, .int x3), (5, .int x5), (6, .int x6)]) hx hb dX11_goAll_82 hl (by decide) rfl (fun ls hl => ?_)
        refine lv_aload_n hx hb dX11_goAll_84 rfl (lv_at hl 1 rfl) ?_
        refine r_get kc_11 7 X hP (by decide) (L_bt _) (by decide) rfl wt_2_102 dX11_goAll_85 ?_
        refine lv_iload hx hb dX11_goAll_88 (lv_at hl 0 rfl) ?_
        obtain ⟨r_21, m_22, hc_23, h⟩ := bd_some h
        refine c_V (rest := []) X hP hS (tX1_isAct hI (by decide) hc_23) (lt_g (by decide) (by decide)) (L_gym (by decide) _) rfl wt_4_223 wt_4_224 wt_4_225 wt_1_10 wt_4_226 ⟨rfl, hy_X1_isAct⟩ ⟨rfl, rfl⟩ ⟨Nat.le_of_ble_eq_true rfl, Nat.le_of_ble_eq_true rfl⟩ rfl hl.1 rfl (Nat.le_of_ble_eq_true rfl) dX11_goAll_90 rfl (fun H locs hP hS => ?_)
        refine lv_if_eq (tgt := 120) hx hb dX11_goAll_93 (by decide) (fun c_24 => ?_) (fun c_24 => ?_)
        · have h := ifp c_24 h
          obtain ⟨x6_25, ex_26, h⟩ := lt_some h
          refine lv_iinc (v := x6_25) (lv' := [(6, .int x6_25), (7, .int x7_19), (0, .ref (A 0)), (1, .int x1), (2, .int x2), (3, .int x3), (5, .int x5)]) hx hb dX11_goAll_120 hl (k := 6) rfl (by rw [ex_26]; rfl) (by decide) rfl (fun ls hl => ?_)
          refine lv_goto (tgt := 44) hx hb dX11_goAll_123 (by decide) ?_
          exact ih x1 x2 x3 x5 x6_25 m_22 _ _ _  h hP hS (lv_sub hl [2, 3, 4, 5, 6, 0] rfl)
        · have h := ifn c_24 h
          refine lv_aload_n hx hb dX11_goAll_96 rfl (lv_at hl 1 rfl) ?_
          refine r_get kc_11 7 X hP (by decide) (L_bt _) (by decide) rfl wt_2_102 dX11_goAll_97 ?_
          obtain ⟨r_27, m_28, hc_29, h⟩ := bd_some h
          refine c_V (rest := []) X hP hS (tX1_isOver hI (by decide) hc_29) (lt_g (by decide) (by decide)) (L_gym (by decide) _) rfl wt_3_73 wt_3_74 wt_3_75 wt_1_10 wt_3_76 ⟨rfl, hy_X1_isOver⟩ ⟨rfl, rfl⟩ ⟨Nat.le_of_ble_eq_true rfl, Nat.le_of_ble_eq_true rfl⟩ rfl hl.1 rfl (Nat.le_of_ble_eq_true rfl) dX11_goAll_100 rfl (fun H locs hP hS => ?_)
          refine lv_if_ne (tgt := 120) hx hb dX11_goAll_103 (by decide) (fun c_30 => ?_) (fun c_30 => ?_)
          · have h := ifn c_30 h
            obtain ⟨x6_31, ex_32, h⟩ := lt_some h
            refine lv_iinc (v := x6_31) (lv' := [(6, .int x6_31), (7, .int x7_19), (0, .ref (A 0)), (1, .int x1), (2, .int x2), (3, .int x3), (5, .int x5)]) hx hb dX11_goAll_120 hl (k := 6) rfl (by rw [ex_32]; rfl) (by decide) rfl (fun ls hl => ?_)
            refine lv_goto (tgt := 44) hx hb dX11_goAll_123 (by decide) ?_
            exact ih x1 x2 x3 x5 x6_31 m_28 _ _ _  h hP hS (lv_sub hl [2, 3, 4, 5, 6, 0] rfl)
          · have h := ifp c_30 h
            refine lv_iload hx hb dX11_goAll_106 (lv_at hl 5 rfl) ?_
            refine lv_aload_n hx hb dX11_goAll_108 rfl (lv_at hl 1 rfl) ?_
            refine r_get kc_11 7 X hP (by decide) (L_bt _) (by decide) rfl wt_2_102 dX11_goAll_109 ?_
            refine lv_iload hx hb dX11_goAll_112 (lv_at hl 0 rfl) ?_
            obtain ⟨r_33, m_34, hc_35, h⟩ := bd_some h
            refine c_V (rest := [.int x5]) X hP hS (tX1_goBy hI (by decide) hc_35) (lt_g (by decide) (by decide)) (L_gym (by decide) _) rfl wt_3_218 wt_3_219 wt_3_220 wt_1_10 wt_3_221 ⟨rfl, hy_X1_goBy⟩ ⟨rfl, rfl⟩ ⟨Nat.le_of_ble_eq_true rfl, Nat.le_of_ble_eq_true rfl⟩ rfl hl.1 rfl (Nat.le_of_ble_eq_true rfl) dX11_goAll_114 rfl (fun H locs hP hS => ?_)
            refine lv_iadd hx hb dX11_goAll_117 ?_
            obtain ⟨x5_36, ex_37, h⟩ := lt_some h
            refine lv_ren ex_37 ?_
            refine lv_istore (lv' := [(5, .int x5_36), (7, .int x7_19), (0, .ref (A 0)), (1, .int x1), (2, .int x2), (3, .int x3), (6, .int x6)]) hx hb dX11_goAll_118 hl (by decide) rfl (fun ls hl => ?_)
            obtain ⟨x6_38, ex_39, h⟩ := lt_some h
            refine lv_iinc (v := x6_38) (lv' := [(6, .int x6_38), (5, .int x5_36), (7, .int x7_19), (0, .ref (A 0)), (1, .int x1), (2, .int x2), (3, .int x3)]) hx hb dX11_goAll_120 hl (k := 6) rfl (by rw [ex_39]; rfl) (by decide) rfl (fun ls hl => ?_)
            refine lv_goto (tgt := 44) hx hb dX11_goAll_123 (by decide) ?_
            exact ih x1 x2 x3 x5_36 x6_38 m_34 _ _ _  h hP hS (lv_sub hl [3, 4, 5, 6, 1, 0] rfl)
      · have h := ifp c_15 h
        refine lv_bipush (v := (-12)) hx hb dX11_goAll_65 (by decide) ?_
        exact r_iret X hP hS dX11_goAll_67 h

def fX11_goAll (a1 : Int32) (a2 : Int32) (a3 : Int32) (m : Mm) : Option (Int32 × Mm) := bd (fX11_isSheet a1 m) fun r_1 m_2 => (if r_1 = 0 then some ((-1), m_2) else (if a3 < 0 then some ((-1), m_2) else (if a3 ≤ 20 then bd (fX3_refusal a1 (0 : Int32) m_2) fun r_7 m_8 => (if (0 : Int32) ≤ r_7 then (fX11_goAll_44  FL a1 a2 a3 0 0 m_8) else some (r_7, m_8)) else some ((-1), m_2))))
set_option maxHeartbeats 4000000 in
set_option maxRecDepth 100000 in
theorem tX11_goAll {l : Launch} {D : va_G} {cA : Nat → ClassId} {A : Nat → Nat} (hI : InjA cN A) {a1 : Int32} {a2 : Int32} {a3 : Int32} {m m' : Mm} {r : Int32} (h : fX11_goAll a1 a2 a3 m = some (r, m')) : Met0 l yX11_goAll cX11_goAll 8 (some .int) { frames := 5, cells := 0, slots := 0, locals := 120 } cLay cN D cA A [.ref (A 0), .int a1, .int a2, .int a3] m (some (.int r)) m' := by
  refine met0_of (by decide) (Nat.le_of_ble_eq_true rfl) hI ?_
  intro p e s m0 below meth c ls X hinit hP hS hl
  generalize ([.ref (A 0), .int a1, .int a2, .int a3] : List Value).toArray = args at X ⊢
  have hl : lv_has ls 8 [(0, .ref (A 0)), (1, .int a1), (2, .int a2), (3, .int a3)] := hl
  have X : CX cLay cN D cA A p s m0 args meth c "BenchTowels" cX11_goAll 8 (some .int) := X
  have hx := X.1
  have hb := X.2.1
  have hml := X.2.2.1
  have hown := X.2.2.2.1
  have hts := X.2.2.2.2.1
  have hF := X.2.2.2.2.2.2.2.2.1
  rewrite [fX11_goAll] at h
  refine lv_iload_n hx hb dX11_goAll_0 rfl (lv_at hl 1 rfl) ?_
  obtain ⟨r_1, m_2, hc_3, h⟩ := bd_some h
  refine c_S (rest := []) X hP hS (tX11_isSheet hI  hc_3) wt_4_231 wt_4_232 wt_1_1 wt_4_233 hy_X11_isSheet ⟨rfl, rfl⟩ ⟨Nat.le_of_ble_eq_true rfl, Nat.le_of_ble_eq_true rfl⟩ rfl hl.1 rfl (Nat.le_of_ble_eq_true rfl) dX11_goAll_1 rfl (fun H locs hP hS => ?_)
  refine lv_if_eq (tgt := 17) hx hb dX11_goAll_4 (by decide) (fun c_4 => ?_) (fun c_4 => ?_)
  · have h := ifp c_4 h
    refine lv_iconst (v := (-1)) hx hb dX11_goAll_17 (by decide) ?_
    exact r_iret X hP hS dX11_goAll_18 h
  · have h := ifn c_4 h
    refine lv_iload_n hx hb dX11_goAll_7 rfl (lv_at hl 3 rfl) ?_
    refine lv_if_lt (tgt := 17) hx hb dX11_goAll_8 (by decide) (fun c_5 => ?_) (fun c_5 => ?_)
    · have h := ifp c_5 h
      refine lv_iconst (v := (-1)) hx hb dX11_goAll_17 (by decide) ?_
      exact r_iret X hP hS dX11_goAll_18 h
    · have h := ifn c_5 h
      refine lv_iload_n hx hb dX11_goAll_11 rfl (lv_at hl 3 rfl) ?_
      refine lv_bipush (v := 20) hx hb dX11_goAll_12 (by decide) ?_
      refine lv_icmp_le (tgt := 19) hx hb dX11_goAll_14 (by decide) (fun c_6 => ?_) (fun c_6 => ?_)
      · have h := ifp c_6 h
        refine lv_aload_n hx hb dX11_goAll_19 rfl (lv_at hl 0 rfl) ?_
        refine r_get kc_11 11 X hP (by decide) (L_bt _) (by decide) rfl wt_2_106 dX11_goAll_20 ?_
        refine lv_iload_n hx hb dX11_goAll_23 rfl (lv_at hl 1 rfl) ?_
        refine lv_iconst (v := 0) hx hb dX11_goAll_24 (by decide) ?_
        obtain ⟨r_7, m_8, hc_9, h⟩ := bd_some h
        refine c_V (rest := []) X hP hS (tX3_refusal hI  hc_9) (by decide) (L_host _) rfl wt_5_14 wt_5_15 wt_5_16 wt_1_12 wt_5_17 ⟨rfl, hy_X3_refusal⟩ ⟨rfl, rfl⟩ ⟨Nat.le_of_ble_eq_true rfl, Nat.le_of_ble_eq_true rfl⟩ rfl hl.1 rfl (Nat.le_of_ble_eq_true rfl) dX11_goAll_25 rfl (fun H locs hP hS => ?_)
        refine lv_istore (lv' := [(4, .int r_7), (0, .ref (A 0)), (1, .int a1), (2, .int a2), (3, .int a3)]) hx hb dX11_goAll_28 hl (by decide) rfl (fun ls hl => ?_)
        refine lv_iload hx hb dX11_goAll_30 (lv_at hl 0 rfl) ?_
        refine lv_if_ge (tgt := 38) hx hb dX11_goAll_32 (by decide) (fun c_10 => ?_) (fun c_10 => ?_)
        · have h := ifp c_10 h
          refine lv_iconst (v := 0) hx hb dX11_goAll_38 (by decide) ?_
          refine lv_istore (lv' := [(5, .int 0), (4, .int r_7), (0, .ref (A 0)), (1, .int a1), (2, .int a2), (3, .int a3)]) hx hb dX11_goAll_39 hl (by decide) rfl (fun ls hl => ?_)
          refine lv_iconst (v := 0) hx hb dX11_goAll_41 (by decide) ?_
          refine lv_istore (lv' := [(6, .int 0), (5, .int 0), (4, .int r_7), (0, .ref (A 0)), (1, .int a1), (2, .int a2), (3, .int a3)]) hx hb dX11_goAll_42 hl (by decide) rfl (fun ls hl => ?_)
          exact tX11_goAll_44 hI    X FL a1 a2 a3 0 0 m_8 _ _ _  h hP hS (lv_sub hl [3, 4, 5, 6, 1, 0] rfl)
        · have h := ifn c_10 h
          refine lv_iload hx hb dX11_goAll_35 (lv_at hl 0 rfl) ?_
          exact r_iret X hP hS dX11_goAll_37 h
      · have h := ifn c_6 h
        refine lv_iconst (v := (-1)) hx hb dX11_goAll_17 (by decide) ?_
        exact r_iret X hP hS dX11_goAll_18 h

def fX11_wouldBe_55  : Nat → Int32 → Int32 → Int32 → Int32 → Int32 → Mm → Option (Int32 × Mm)
  | 0, _, _, _, _, _, _ => none
  | n + 1, x1, x2, x3, x5, x6, m => (if (x3 : Int32) ≤ x6 then some (x5, m) else bd (fX3_hasItem x1 (x2 + x6) m) fun r_15 m_16 => (if r_15 = 0 then some ((-12), m_16) else gx x1 4 (gx (x2 + x6) 40 (lt (m_16 (56 + (ix x1)) (ix (x2 + x6))) fun x7_22 => bd (fX1_isAct 2 x7_22 m_16) fun r_24 m_25 => (if r_24 = 0 then some ((-4), m_25) else bd (fX1_isOver 2 m_25) fun r_28 m_29 => (if r_28 = 0 then bd (fX1_goBy 2 x7_22 m_29) fun r_32 m_33 => lt (x5 + r_32) fun x5_35 => lt ((x6 : Int32) + 1) fun x6_37 => (fX11_wouldBe_55 n x1 x2 x3 x5_35 x6_37 m_33) else some ((-4), m_29)))))))
set_option maxHeartbeats 4000000 in
set_option maxRecDepth 100000 in
theorem tX11_wouldBe_55 (hI : InjA cN A)  {r : Int32} {m' : Mm} (X : CX cLay cN D cA A p s m0 args meth c "BenchTowels" cX11_wouldBe 8 (some .int)) : ∀ (n : Nat) (x1 : Int32) (x2 : Int32) (x3 : Int32) (x5 : Int32) (x6 : Int32) (m : Mm) (H : Heap) (locs : List Loc) (ls : Array Slot), fX11_wouldBe_55 n x1 x2 x3 x5 x6 m = some (r, m') → va_P D vwCl (wsOf cLay cN cA A m) H → va_S (AW cN A) s.heap H locs → lv_has ls 8 [(0, .ref (A 0)), (1, .int x1), (2, .int x2), (3, .int x3), (5, .int x5), (6, .int x6)] → W p l e { frames := 5, cells := 0, slots := 0, locals := 120 } s m0 args below meth c H locs 0 0 (ZR below args s cLay cN D cA A (some (.int r)) m') (F0 m0 55 ls []) := by
  have hx := X.1
  have hb := X.2.1
  have hml := X.2.2.1
  have hown := X.2.2.2.1
  have hts := X.2.2.2.2.1
  have hF := X.2.2.2.2.2.2.2.2.1
  intro n
  induction n with
  | zero =>
    intro x1 x2 x3 x5 x6 m H locs ls h hP hS hl
    exact absurd h (by rewrite [fX11_wouldBe_55]; exact fun q => by cases q)
  | succ n ih =>
    intro x1 x2 x3 x5 x6 m H locs ls h hP hS hl
    rewrite [fX11_wouldBe_55] at h
    refine lv_iload hx hb dX11_wouldBe_55 (lv_at hl 5 rfl) ?_
    refine lv_iload_n hx hb dX11_wouldBe_57 rfl (lv_at hl 3 rfl) ?_
    refine lv_icmp_ge (tgt := 140) hx hb dX11_wouldBe_58 (by decide) (fun c_14 => ?_) (fun c_14 => ?_)
    · have h := ifp c_14 h
      refine lv_iload hx hb dX11_wouldBe_140 (lv_at hl 4 rfl) ?_
      exact r_iret X hP hS dX11_wouldBe_142 h
    · have h := ifn c_14 h
      refine lv_aload_n hx hb dX11_wouldBe_61 rfl (lv_at hl 0 rfl) ?_
      refine r_get kc_11 11 X hP (by decide) (L_bt _) (by decide) rfl wt_2_106 dX11_wouldBe_62 ?_
      refine lv_iload_n hx hb dX11_wouldBe_65 rfl (lv_at hl 1 rfl) ?_
      refine lv_iload_n hx hb dX11_wouldBe_66 rfl (lv_at hl 2 rfl) ?_
      refine lv_iload hx hb dX11_wouldBe_67 (lv_at hl 5 rfl) ?_
      refine lv_iadd hx hb dX11_wouldBe_69 ?_
      obtain ⟨r_15, m_16, hc_17, h⟩ := bd_some h
      refine c_V (rest := []) X hP hS (tX3_hasItem hI  hc_17) (by decide) (L_host _) rfl wt_5_2 wt_5_3 wt_5_4 wt_1_12 wt_5_5 ⟨rfl, hy_X3_hasItem⟩ ⟨rfl, rfl⟩ ⟨Nat.le_of_ble_eq_true rfl, Nat.le_of_ble_eq_true rfl⟩ rfl hl.1 rfl (Nat.le_of_ble_eq_true rfl) dX11_wouldBe_70 rfl (fun H locs hP hS => ?_)
      refine lv_if_ne (tgt := 79) hx hb dX11_wouldBe_73 (by decide) (fun c_18 => ?_) (fun c_18 => ?_)
      · have h := ifn c_18 h
        refine lv_aload_n hx hb dX11_wouldBe_79 rfl (lv_at hl 0 rfl) ?_
        refine r_get kc_11 11 X hP (by decide) (L_bt _) (by decide) rfl wt_2_106 dX11_wouldBe_80 ?_
        refine r_get kc_3 3 X hP (by decide) (L_host _) (by decide) rfl wt_2_50 dX11_wouldBe_83 ?_
        refine lv_iload_n hx hb dX11_wouldBe_86 rfl (lv_at hl 1 rfl) ?_
        obtain ⟨hin_19, h⟩ := gx_some h
        have q_20 := vp_lt hin_19
        refine r_row (q' := (56 + (ix x1))) X hP (by decide) (Lq_55 _) hin_19 rfl q_20 rfl dX11_wouldBe_87 ?_
        refine lv_iload_n hx hb dX11_wouldBe_88 rfl (lv_at hl 2 rfl) ?_
        refine lv_iload hx hb dX11_wouldBe_89 (lv_at hl 5 rfl) ?_
        refine lv_iadd hx hb dX11_wouldBe_91 ?_
        obtain ⟨hin_21, h⟩ := gx_some h
        refine r_iald X hP (lt_add56 (j := (ix x1)) q_20) ((La_item (j := (ix x1)) q_20) _) hin_21 rfl dX11_wouldBe_92 ?_
        obtain ⟨x7_22, ex_23, h⟩ := lt_some h
        refine lv_ren ex_23 ?_
        refine lv_istore (lv' := [(7, .int x7_22), (0, .ref (A 0)), (1, .int x1), (2, .int x2), (3, .int x3), (5, .int x5), (6, .int x6)]) hx hb dX11_wouldBe_93 hl (by decide) rfl (fun ls hl => ?_)
        refine lv_aload_n hx hb dX11_wouldBe_95 rfl (lv_at hl 1 rfl) ?_
        refine r_get kc_11 9 X hP (by decide) (L_bt _) (by decide) rfl wt_2_104 dX11_wouldBe_96 ?_
        refine lv_iload hx hb dX11_wouldBe_99 (lv_at hl 0 rfl) ?_
        obtain ⟨r_24, m_25, hc_26, h⟩ := bd_some h
        refine c_V (rest := []) X hP hS (tX1_isAct hI (by decide) hc_26) (lt_g (by decide) (by decide)) (L_gym (by decide) _) rfl wt_4_223 wt_4_224 wt_4_225 wt_1_10 wt_4_226 ⟨rfl, hy_X1_isAct⟩ ⟨rfl, rfl⟩ ⟨Nat.le_of_ble_eq_true rfl, Nat.le_of_ble_eq_true rfl⟩ rfl hl.1 rfl (Nat.le_of_ble_eq_true rfl) dX11_wouldBe_101 rfl (fun H locs hP hS => ?_)
        refine lv_if_eq (tgt := 117) hx hb dX11_wouldBe_104 (by decide) (fun c_27 => ?_) (fun c_27 => ?_)
        · have h := ifp c_27 h
          refine lv_bipush (v := (-4)) hx hb dX11_wouldBe_117 (by decide) ?_
          exact r_iret X hP hS dX11_wouldBe_119 h
        · have h := ifn c_27 h
          refine lv_aload_n hx hb dX11_wouldBe_107 rfl (lv_at hl 1 rfl) ?_
          refine r_get kc_11 9 X hP (by decide) (L_bt _) (by decide) rfl wt_2_104 dX11_wouldBe_108 ?_
          obtain ⟨r_28, m_29, hc_30, h⟩ := bd_some h
          refine c_V (rest := []) X hP hS (tX1_isOver hI (by decide) hc_30) (lt_g (by decide) (by decide)) (L_gym (by decide) _) rfl wt_3_73 wt_3_74 wt_3_75 wt_1_10 wt_3_76 ⟨rfl, hy_X1_isOver⟩ ⟨rfl, rfl⟩ ⟨Nat.le_of_ble_eq_true rfl, Nat.le_of_ble_eq_true rfl⟩ rfl hl.1 rfl (Nat.le_of_ble_eq_true rfl) dX11_wouldBe_111 rfl (fun H locs hP hS => ?_)
          refine lv_if_eq (tgt := 120) hx hb dX11_wouldBe_114 (by decide) (fun c_31 => ?_) (fun c_31 => ?_)
          · have h := ifp c_31 h
            refine lv_iload hx hb dX11_wouldBe_120 (lv_at hl 5 rfl) ?_
            refine lv_aload_n hx hb dX11_wouldBe_122 rfl (lv_at hl 1 rfl) ?_
            refine r_get kc_11 9 X hP (by decide) (L_bt _) (by decide) rfl wt_2_104 dX11_wouldBe_123 ?_
            refine lv_iload hx hb dX11_wouldBe_126 (lv_at hl 0 rfl) ?_
            obtain ⟨r_32, m_33, hc_34, h⟩ := bd_some h
            refine c_V (rest := [.int x5]) X hP hS (tX1_goBy hI (by decide) hc_34) (lt_g (by decide) (by decide)) (L_gym (by decide) _) rfl wt_3_218 wt_3_219 wt_3_220 wt_1_10 wt_3_221 ⟨rfl, hy_X1_goBy⟩ ⟨rfl, rfl⟩ ⟨Nat.le_of_ble_eq_true rfl, Nat.le_of_ble_eq_true rfl⟩ rfl hl.1 rfl (Nat.le_of_ble_eq_true rfl) dX11_wouldBe_128 rfl (fun H locs hP hS => ?_)
            refine lv_iadd hx hb dX11_wouldBe_131 ?_
            obtain ⟨x5_35, ex_36, h⟩ := lt_some h
            refine lv_ren ex_36 ?_
            refine lv_istore (lv' := [(5, .int x5_35), (7, .int x7_22), (0, .ref (A 0)), (1, .int x1), (2, .int x2), (3, .int x3), (6, .int x6)]) hx hb dX11_wouldBe_132 hl (by decide) rfl (fun ls hl => ?_)
            obtain ⟨x6_37, ex_38, h⟩ := lt_some h
            refine lv_iinc (v := x6_37) (lv' := [(6, .int x6_37), (5, .int x5_35), (7, .int x7_22), (0, .ref (A 0)), (1, .int x1), (2, .int x2), (3, .int x3)]) hx hb dX11_wouldBe_134 hl (k := 6) rfl (by rw [ex_38]; rfl) (by decide) rfl (fun ls hl => ?_)
            refine lv_goto (tgt := 55) hx hb dX11_wouldBe_137 (by decide) ?_
            exact ih x1 x2 x3 x5_35 x6_37 m_33 _ _ _  h hP hS (lv_sub hl [3, 4, 5, 6, 1, 0] rfl)
          · have h := ifn c_31 h
            refine lv_bipush (v := (-4)) hx hb dX11_wouldBe_117 (by decide) ?_
            exact r_iret X hP hS dX11_wouldBe_119 h
      · have h := ifp c_18 h
        refine lv_bipush (v := (-12)) hx hb dX11_wouldBe_76 (by decide) ?_
        exact r_iret X hP hS dX11_wouldBe_78 h

def fX11_wouldBe (a1 : Int32) (a2 : Int32) (a3 : Int32) (m : Mm) : Option (Int32 × Mm) := bd (fX11_isSheet a1 m) fun r_1 m_2 => (if r_1 = 0 then some ((-1), m_2) else (if a3 < 0 then some ((-1), m_2) else (if a3 ≤ 20 then bd (fX3_refusal a1 (0 : Int32) m_2) fun r_7 m_8 => (if (0 : Int32) ≤ r_7 then bd (fX1_copy 2 0 m_8) fun r_11 m_12 => (fX11_wouldBe_55  FL a1 a2 a3 0 0 m_12) else some (r_7, m_8)) else some ((-1), m_2))))
set_option maxHeartbeats 4000000 in
set_option maxRecDepth 100000 in
theorem tX11_wouldBe {l : Launch} {D : va_G} {cA : Nat → ClassId} {A : Nat → Nat} (hI : InjA cN A) {a1 : Int32} {a2 : Int32} {a3 : Int32} {m m' : Mm} {r : Int32} (h : fX11_wouldBe a1 a2 a3 m = some (r, m')) : Met0 l yX11_wouldBe cX11_wouldBe 8 (some .int) { frames := 5, cells := 0, slots := 0, locals := 120 } cLay cN D cA A [.ref (A 0), .int a1, .int a2, .int a3] m (some (.int r)) m' := by
  refine met0_of (by decide) (Nat.le_of_ble_eq_true rfl) hI ?_
  intro p e s m0 below meth c ls X hinit hP hS hl
  generalize ([.ref (A 0), .int a1, .int a2, .int a3] : List Value).toArray = args at X ⊢
  have hl : lv_has ls 8 [(0, .ref (A 0)), (1, .int a1), (2, .int a2), (3, .int a3)] := hl
  have X : CX cLay cN D cA A p s m0 args meth c "BenchTowels" cX11_wouldBe 8 (some .int) := X
  have hx := X.1
  have hb := X.2.1
  have hml := X.2.2.1
  have hown := X.2.2.2.1
  have hts := X.2.2.2.2.1
  have hF := X.2.2.2.2.2.2.2.2.1
  rewrite [fX11_wouldBe] at h
  refine lv_iload_n hx hb dX11_wouldBe_0 rfl (lv_at hl 1 rfl) ?_
  obtain ⟨r_1, m_2, hc_3, h⟩ := bd_some h
  refine c_S (rest := []) X hP hS (tX11_isSheet hI  hc_3) wt_4_231 wt_4_232 wt_1_1 wt_4_233 hy_X11_isSheet ⟨rfl, rfl⟩ ⟨Nat.le_of_ble_eq_true rfl, Nat.le_of_ble_eq_true rfl⟩ rfl hl.1 rfl (Nat.le_of_ble_eq_true rfl) dX11_wouldBe_1 rfl (fun H locs hP hS => ?_)
  refine lv_if_eq (tgt := 17) hx hb dX11_wouldBe_4 (by decide) (fun c_4 => ?_) (fun c_4 => ?_)
  · have h := ifp c_4 h
    refine lv_iconst (v := (-1)) hx hb dX11_wouldBe_17 (by decide) ?_
    exact r_iret X hP hS dX11_wouldBe_18 h
  · have h := ifn c_4 h
    refine lv_iload_n hx hb dX11_wouldBe_7 rfl (lv_at hl 3 rfl) ?_
    refine lv_if_lt (tgt := 17) hx hb dX11_wouldBe_8 (by decide) (fun c_5 => ?_) (fun c_5 => ?_)
    · have h := ifp c_5 h
      refine lv_iconst (v := (-1)) hx hb dX11_wouldBe_17 (by decide) ?_
      exact r_iret X hP hS dX11_wouldBe_18 h
    · have h := ifn c_5 h
      refine lv_iload_n hx hb dX11_wouldBe_11 rfl (lv_at hl 3 rfl) ?_
      refine lv_bipush (v := 20) hx hb dX11_wouldBe_12 (by decide) ?_
      refine lv_icmp_le (tgt := 19) hx hb dX11_wouldBe_14 (by decide) (fun c_6 => ?_) (fun c_6 => ?_)
      · have h := ifp c_6 h
        refine lv_aload_n hx hb dX11_wouldBe_19 rfl (lv_at hl 0 rfl) ?_
        refine r_get kc_11 11 X hP (by decide) (L_bt _) (by decide) rfl wt_2_106 dX11_wouldBe_20 ?_
        refine lv_iload_n hx hb dX11_wouldBe_23 rfl (lv_at hl 1 rfl) ?_
        refine lv_iconst (v := 0) hx hb dX11_wouldBe_24 (by decide) ?_
        obtain ⟨r_7, m_8, hc_9, h⟩ := bd_some h
        refine c_V (rest := []) X hP hS (tX3_refusal hI  hc_9) (by decide) (L_host _) rfl wt_5_14 wt_5_15 wt_5_16 wt_1_12 wt_5_17 ⟨rfl, hy_X3_refusal⟩ ⟨rfl, rfl⟩ ⟨Nat.le_of_ble_eq_true rfl, Nat.le_of_ble_eq_true rfl⟩ rfl hl.1 rfl (Nat.le_of_ble_eq_true rfl) dX11_wouldBe_25 rfl (fun H locs hP hS => ?_)
        refine lv_istore (lv' := [(4, .int r_7), (0, .ref (A 0)), (1, .int a1), (2, .int a2), (3, .int a3)]) hx hb dX11_wouldBe_28 hl (by decide) rfl (fun ls hl => ?_)
        refine lv_iload hx hb dX11_wouldBe_30 (lv_at hl 0 rfl) ?_
        refine lv_if_ge (tgt := 38) hx hb dX11_wouldBe_32 (by decide) (fun c_10 => ?_) (fun c_10 => ?_)
        · have h := ifp c_10 h
          refine lv_aload_n hx hb dX11_wouldBe_38 rfl (lv_at hl 1 rfl) ?_
          refine r_get kc_11 9 X hP (by decide) (L_bt _) (by decide) rfl wt_2_104 dX11_wouldBe_39 ?_
          refine lv_aload_n hx hb dX11_wouldBe_42 rfl (lv_at hl 1 rfl) ?_
          refine r_get kc_11 7 X hP (by decide) (L_bt _) (by decide) rfl wt_2_102 dX11_wouldBe_43 ?_
          obtain ⟨r_11, m_12, hc_13, h⟩ := bd_some h
          refine c_V (rest := []) X hP hS (tX1_copy hI (by decide) (by decide) hc_13) (lt_g (by decide) (by decide)) (L_gym (by decide) _) rfl wt_4_2 wt_4_3 wt_4_4 wt_1_10 wt_4_5 ⟨rfl, hy_X1_copy⟩ ⟨rfl, rfl⟩ ⟨Nat.le_of_ble_eq_true rfl, Nat.le_of_ble_eq_true rfl⟩ rfl hl.1 rfl (Nat.le_of_ble_eq_true rfl) dX11_wouldBe_46 rfl (fun H locs hP hS => ?_)
          refine lv_iconst (v := 0) hx hb dX11_wouldBe_49 (by decide) ?_
          refine lv_istore (lv' := [(5, .int 0), (4, .int r_7), (0, .ref (A 0)), (1, .int a1), (2, .int a2), (3, .int a3)]) hx hb dX11_wouldBe_50 hl (by decide) rfl (fun ls hl => ?_)
          refine lv_iconst (v := 0) hx hb dX11_wouldBe_52 (by decide) ?_
          refine lv_istore (lv' := [(6, .int 0), (5, .int 0), (4, .int r_7), (0, .ref (A 0)), (1, .int a1), (2, .int a2), (3, .int a3)]) hx hb dX11_wouldBe_53 hl (by decide) rfl (fun ls hl => ?_)
          exact tX11_wouldBe_55 hI    X FL a1 a2 a3 0 0 m_12 _ _ _  h hP hS (lv_sub hl [3, 4, 5, 6, 1, 0] rfl)
        · have h := ifn c_10 h
          refine lv_iload hx hb dX11_wouldBe_35 (lv_at hl 0 rfl) ?_
          exact r_iret X hP hS dX11_wouldBe_37 h
      · have h := ifn c_6 h
        refine lv_iconst (v := (-1)) hx hb dX11_wouldBe_17 (by decide) ?_
        exact r_iret X hP hS dX11_wouldBe_18 h

def fX11_isShelf (a1 : Int32) (m : Mm) : Option (Int32 × Mm) := (if a1 < 0 then some (0, m) else (if (4 : Int32) ≤ a1 then some (0, m) else some (1, m)))
set_option maxHeartbeats 4000000 in
set_option maxRecDepth 100000 in
theorem tX11_isShelf {l : Launch} {D : va_G} {cA : Nat → ClassId} {A : Nat → Nat} (hI : InjA cN A) {a1 : Int32} {m m' : Mm} {r : Int32} (h : fX11_isShelf a1 m = some (r, m')) : Met0 l yX11_isShelf cX11_isShelf 1 (some .boolean) { frames := 0, cells := 0, slots := 0, locals := 0 } cLay cN D cA A [.int a1] m (some (.int r)) m' := by
  refine met0_of (by decide) (Nat.le_of_ble_eq_true rfl) hI ?_
  intro p e s m0 below meth c ls X hinit hP hS hl
  generalize ([.int a1] : List Value).toArray = args at X ⊢
  have hl : lv_has ls 1 [(0, .int a1)] := hl
  have X : CX cLay cN D cA A p s m0 args meth c "BenchTowels" cX11_isShelf 1 (some .boolean) := X
  have hx := X.1
  have hb := X.2.1
  have hml := X.2.2.1
  have hown := X.2.2.2.1
  have hts := X.2.2.2.2.1
  have hF := X.2.2.2.2.2.2.2.2.1
  rewrite [fX11_isShelf] at h
  refine lv_iload_n hx hb dX11_isShelf_0 rfl (lv_at hl 0 rfl) ?_
  refine lv_if_lt (tgt := 13) hx hb dX11_isShelf_1 (by decide) (fun c_1 => ?_) (fun c_1 => ?_)
  · have h := ifp c_1 h
    refine lv_iconst (v := 0) hx hb dX11_isShelf_13 (by decide) ?_
    exact r_zret X (Or.inl rfl) hP hS dX11_isShelf_14 h
  · have h := ifn c_1 h
    refine lv_iload_n hx hb dX11_isShelf_4 rfl (lv_at hl 0 rfl) ?_
    refine lv_iconst (v := 4) hx hb dX11_isShelf_5 (by decide) ?_
    refine lv_icmp_ge (tgt := 13) hx hb dX11_isShelf_6 (by decide) (fun c_2 => ?_) (fun c_2 => ?_)
    · have h := ifp c_2 h
      refine lv_iconst (v := 0) hx hb dX11_isShelf_13 (by decide) ?_
      exact r_zret X (Or.inl rfl) hP hS dX11_isShelf_14 h
    · have h := ifn c_2 h
      refine lv_iconst (v := 1) hx hb dX11_isShelf_9 (by decide) ?_
      refine lv_goto (tgt := 14) hx hb dX11_isShelf_10 (by decide) ?_
      exact r_zret X (Or.inr rfl) hP hS dX11_isShelf_14 h

def fX11_shelf_47  (x1 : Int32) (x2 : Int32) (x3 : Int32) (m : Mm) : Option (Int32 × Mm) := (if x2 = 0 then bd (fX3_putSet x1 x3 m) fun r_17 m_18 => some (1, m_18) else (if x2 = 1 then bd (fX3_putRow x1 x3 m) fun r_14 m_15 => some (1, m_15) else gx x1 4 (lt (up m 60 (ix x1) 2) fun m_12 => some (1, m_12))))
set_option maxHeartbeats 4000000 in
set_option maxRecDepth 100000 in
theorem tX11_shelf_47 (hI : InjA cN A)  {r : Int32} {m' : Mm} (X : CX cLay cN D cA A p s m0 args meth c "BenchTowels" cX11_shelf 4 (some .int)) : ∀ (x1 : Int32) (x2 : Int32) (x3 : Int32) (m : Mm) (H : Heap) (locs : List Loc) (ls : Array Slot), fX11_shelf_47 x1 x2 x3 m = some (r, m') → va_P D vwCl (wsOf cLay cN cA A m) H → va_S (AW cN A) s.heap H locs → lv_has ls 4 [(0, .ref (A 0)), (1, .int x1), (2, .int x2), (3, .int x3)] → W p l e { frames := 1, cells := 0, slots := 0, locals := 22 } s m0 args below meth c H locs 0 0 (ZR below args s cLay cN D cA A (some (.int r)) m') (F0 m0 47 ls []) := by
  have hx := X.1
  have hb := X.2.1
  have hml := X.2.2.1
  have hown := X.2.2.2.1
  have hts := X.2.2.2.2.1
  have hF := X.2.2.2.2.2.2.2.2.1
  intro x1 x2 x3 m H locs ls h hP hS hl
  rewrite [fX11_shelf_47] at h
  refine lv_iload_n hx hb dX11_shelf_47 rfl (lv_at hl 2 rfl) ?_
  refine lv_if_ne (tgt := 63) hx hb dX11_shelf_48 (by decide) (fun c_9 => ?_) (fun c_9 => ?_)
  · have h := ifn c_9 h
    refine lv_iload_n hx hb dX11_shelf_63 rfl (lv_at hl 2 rfl) ?_
    refine lv_iconst (v := 1) hx hb dX11_shelf_64 (by decide) ?_
    refine lv_icmp_ne (tgt := 80) hx hb dX11_shelf_65 (by decide) (fun c_10 => ?_) (fun c_10 => ?_)
    · have h := ifn c_10 h
      refine lv_aload_n hx hb dX11_shelf_80 rfl (lv_at hl 0 rfl) ?_
      refine r_get kc_11 11 X hP (by decide) (L_bt _) (by decide) rfl wt_2_106 dX11_shelf_81 ?_
      refine r_get kc_3 4 X hP (by decide) (L_host _) (by decide) rfl wt_2_52 dX11_shelf_84 ?_
      refine lv_iload_n hx hb dX11_shelf_87 rfl (lv_at hl 1 rfl) ?_
      refine lv_iconst (v := 2) hx hb dX11_shelf_88 (by decide) ?_
      obtain ⟨hin_11, h⟩ := gx_some h
      obtain ⟨m_12, em_13, h⟩ := lt_some h
      refine r_iast X hP hS (by decide) La_60 hin_11 rfl dX11_shelf_89 em_13 (fun H locs hP hS => ?_)
      refine lv_iconst (v := 1) hx hb dX11_shelf_90 (by decide) ?_
      exact r_iret X hP hS dX11_shelf_91 h
    · have h := ifp c_10 h
      refine lv_aload_n hx hb dX11_shelf_68 rfl (lv_at hl 0 rfl) ?_
      refine r_get kc_11 11 X hP (by decide) (L_bt _) (by decide) rfl wt_2_106 dX11_shelf_69 ?_
      refine lv_iload_n hx hb dX11_shelf_72 rfl (lv_at hl 1 rfl) ?_
      refine lv_iload_n hx hb dX11_shelf_73 rfl (lv_at hl 3 rfl) ?_
      obtain ⟨r_14, m_15, hc_16, h⟩ := bd_some h
      refine c_V (rest := []) X hP hS (tX3_putRow hI  hc_16) (by decide) (L_host _) rfl wt_5_37 wt_5_38 wt_5_39 wt_1_12 wt_5_40 ⟨rfl, hy_X3_putRow⟩ ⟨rfl, rfl⟩ ⟨Nat.le_of_ble_eq_true rfl, Nat.le_of_ble_eq_true rfl⟩ rfl hl.1 rfl (Nat.le_of_ble_eq_true rfl) dX11_shelf_74 rfl (fun H locs hP hS => ?_)
      refine lv_goto (tgt := 90) hx hb dX11_shelf_77 (by decide) ?_
      refine lv_iconst (v := 1) hx hb dX11_shelf_90 (by decide) ?_
      exact r_iret X hP hS dX11_shelf_91 h
  · have h := ifp c_9 h
    refine lv_aload_n hx hb dX11_shelf_51 rfl (lv_at hl 0 rfl) ?_
    refine r_get kc_11 11 X hP (by decide) (L_bt _) (by decide) rfl wt_2_106 dX11_shelf_52 ?_
    refine lv_iload_n hx hb dX11_shelf_55 rfl (lv_at hl 1 rfl) ?_
    refine lv_iload_n hx hb dX11_shelf_56 rfl (lv_at hl 3 rfl) ?_
    obtain ⟨r_17, m_18, hc_19, h⟩ := bd_some h
    refine c_V (rest := []) X hP hS (tX3_putSet hI  hc_19) (by decide) (L_host _) rfl wt_5_33 wt_5_34 wt_5_35 wt_1_12 wt_5_36 ⟨rfl, hy_X3_putSet⟩ ⟨rfl, rfl⟩ ⟨Nat.le_of_ble_eq_true rfl, Nat.le_of_ble_eq_true rfl⟩ rfl hl.1 rfl (Nat.le_of_ble_eq_true rfl) dX11_shelf_57 rfl (fun H locs hP hS => ?_)
    refine lv_goto (tgt := 90) hx hb dX11_shelf_60 (by decide) ?_
    refine lv_iconst (v := 1) hx hb dX11_shelf_90 (by decide) ?_
    exact r_iret X hP hS dX11_shelf_91 h

def fX11_shelf_33  (x1 : Int32) (x2 : Int32) (x3 : Int32) (m : Mm) : Option (Int32 × Mm) := (if x2 = 1 then bd (fX11_isSheet x3 m) fun r_20 m_21 => (if r_20 = 0 then some ((-1), m_21) else fX11_shelf_47  x1 x2 x3 m_21) else fX11_shelf_47  x1 x2 x3 m)
set_option maxHeartbeats 4000000 in
set_option maxRecDepth 100000 in
theorem tX11_shelf_33 (hI : InjA cN A)  {r : Int32} {m' : Mm} (X : CX cLay cN D cA A p s m0 args meth c "BenchTowels" cX11_shelf 4 (some .int)) : ∀ (x1 : Int32) (x2 : Int32) (x3 : Int32) (m : Mm) (H : Heap) (locs : List Loc) (ls : Array Slot), fX11_shelf_33 x1 x2 x3 m = some (r, m') → va_P D vwCl (wsOf cLay cN cA A m) H → va_S (AW cN A) s.heap H locs → lv_has ls 4 [(0, .ref (A 0)), (1, .int x1), (2, .int x2), (3, .int x3)] → W p l e { frames := 1, cells := 0, slots := 0, locals := 22 } s m0 args below meth c H locs 0 0 (ZR below args s cLay cN D cA A (some (.int r)) m') (F0 m0 33 ls []) := by
  have hx := X.1
  have hb := X.2.1
  have hml := X.2.2.1
  have hown := X.2.2.2.1
  have hts := X.2.2.2.2.1
  have hF := X.2.2.2.2.2.2.2.2.1
  intro x1 x2 x3 m H locs ls h hP hS hl
  rewrite [fX11_shelf_33] at h
  refine lv_iload_n hx hb dX11_shelf_33 rfl (lv_at hl 2 rfl) ?_
  refine lv_iconst (v := 1) hx hb dX11_shelf_34 (by decide) ?_
  refine lv_icmp_ne (tgt := 47) hx hb dX11_shelf_35 (by decide) (fun c_8 => ?_) (fun c_8 => ?_)
  · have h := ifn c_8 h
    exact tX11_shelf_47 hI    X x1 x2 x3 m _ _ _  h hP hS (lv_sub hl [0, 1, 2, 3] rfl)
  · have h := ifp c_8 h
    refine lv_iload_n hx hb dX11_shelf_38 rfl (lv_at hl 3 rfl) ?_
    obtain ⟨r_20, m_21, hc_22, h⟩ := bd_some h
    refine c_S (rest := []) X hP hS (tX11_isSheet hI  hc_22) wt_4_231 wt_4_232 wt_1_1 wt_4_233 hy_X11_isSheet ⟨rfl, rfl⟩ ⟨Nat.le_of_ble_eq_true rfl, Nat.le_of_ble_eq_true rfl⟩ rfl hl.1 rfl (Nat.le_of_ble_eq_true rfl) dX11_shelf_39 rfl (fun H locs hP hS => ?_)
    refine lv_if_ne (tgt := 47) hx hb dX11_shelf_42 (by decide) (fun c_23 => ?_) (fun c_23 => ?_)
    · have h := ifn c_23 h
      exact tX11_shelf_47 hI    X x1 x2 x3 m_21 _ _ _  h hP hS (lv_sub hl [0, 1, 2, 3] rfl)
    · have h := ifp c_23 h
      refine lv_iconst (v := (-1)) hx hb dX11_shelf_45 (by decide) ?_
      exact r_iret X hP hS dX11_shelf_46 h

def fX11_shelf (a1 : Int32) (a2 : Int32) (a3 : Int32) (m : Mm) : Option (Int32 × Mm) := bd (fX11_isShelf a1 m) fun r_1 m_2 => (if r_1 = 0 then some ((-1), m_2) else (if a2 < 0 then some ((-1), m_2) else (if a2 ≤ 2 then (if a2 = 0 then bd (fX1_has 0 a3 m_2) fun r_24 m_25 => (if r_24 = 0 then some ((-1), m_25) else fX11_shelf_33  a1 a2 a3 m_25) else fX11_shelf_33  a1 a2 a3 m_2) else some ((-1), m_2))))
set_option maxHeartbeats 4000000 in
set_option maxRecDepth 100000 in
theorem tX11_shelf {l : Launch} {D : va_G} {cA : Nat → ClassId} {A : Nat → Nat} (hI : InjA cN A) {a1 : Int32} {a2 : Int32} {a3 : Int32} {m m' : Mm} {r : Int32} (h : fX11_shelf a1 a2 a3 m = some (r, m')) : Met0 l yX11_shelf cX11_shelf 4 (some .int) { frames := 1, cells := 0, slots := 0, locals := 22 } cLay cN D cA A [.ref (A 0), .int a1, .int a2, .int a3] m (some (.int r)) m' := by
  refine met0_of (by decide) (Nat.le_of_ble_eq_true rfl) hI ?_
  intro p e s m0 below meth c ls X hinit hP hS hl
  generalize ([.ref (A 0), .int a1, .int a2, .int a3] : List Value).toArray = args at X ⊢
  have hl : lv_has ls 4 [(0, .ref (A 0)), (1, .int a1), (2, .int a2), (3, .int a3)] := hl
  have X : CX cLay cN D cA A p s m0 args meth c "BenchTowels" cX11_shelf 4 (some .int) := X
  have hx := X.1
  have hb := X.2.1
  have hml := X.2.2.1
  have hown := X.2.2.2.1
  have hts := X.2.2.2.2.1
  have hF := X.2.2.2.2.2.2.2.2.1
  rewrite [fX11_shelf] at h
  refine lv_iload_n hx hb dX11_shelf_0 rfl (lv_at hl 1 rfl) ?_
  obtain ⟨r_1, m_2, hc_3, h⟩ := bd_some h
  refine c_S (rest := []) X hP hS (tX11_isShelf hI  hc_3) wt_5_30 wt_5_31 wt_1_1 wt_5_32 hy_X11_isShelf ⟨rfl, rfl⟩ ⟨Nat.le_of_ble_eq_true rfl, Nat.le_of_ble_eq_true rfl⟩ rfl hl.1 rfl (Nat.le_of_ble_eq_true rfl) dX11_shelf_1 rfl (fun H locs hP hS => ?_)
  refine lv_if_eq (tgt := 16) hx hb dX11_shelf_4 (by decide) (fun c_4 => ?_) (fun c_4 => ?_)
  · have h := ifp c_4 h
    refine lv_iconst (v := (-1)) hx hb dX11_shelf_16 (by decide) ?_
    exact r_iret X hP hS dX11_shelf_17 h
  · have h := ifn c_4 h
    refine lv_iload_n hx hb dX11_shelf_7 rfl (lv_at hl 2 rfl) ?_
    refine lv_if_lt (tgt := 16) hx hb dX11_shelf_8 (by decide) (fun c_5 => ?_) (fun c_5 => ?_)
    · have h := ifp c_5 h
      refine lv_iconst (v := (-1)) hx hb dX11_shelf_16 (by decide) ?_
      exact r_iret X hP hS dX11_shelf_17 h
    · have h := ifn c_5 h
      refine lv_iload_n hx hb dX11_shelf_11 rfl (lv_at hl 2 rfl) ?_
      refine lv_iconst (v := 2) hx hb dX11_shelf_12 (by decide) ?_
      refine lv_icmp_le (tgt := 18) hx hb dX11_shelf_13 (by decide) (fun c_6 => ?_) (fun c_6 => ?_)
      · have h := ifp c_6 h
        refine lv_iload_n hx hb dX11_shelf_18 rfl (lv_at hl 2 rfl) ?_
        refine lv_if_ne (tgt := 33) hx hb dX11_shelf_19 (by decide) (fun c_7 => ?_) (fun c_7 => ?_)
        · have h := ifn c_7 h
          exact tX11_shelf_33 hI    X a1 a2 a3 m_2 _ _ _  h hP hS (lv_sub hl [0, 1, 2, 3] rfl)
        · have h := ifp c_7 h
          refine lv_aload_n hx hb dX11_shelf_22 rfl (lv_at hl 0 rfl) ?_
          refine r_get kc_11 7 X hP (by decide) (L_bt _) (by decide) rfl wt_2_102 dX11_shelf_23 ?_
          refine lv_iload_n hx hb dX11_shelf_26 rfl (lv_at hl 3 rfl) ?_
          obtain ⟨r_24, m_25, hc_26, h⟩ := bd_some h
          refine c_V (rest := []) X hP hS (tX1_has hI (by decide) hc_26) (lt_g (by decide) (by decide)) (L_gym (by decide) _) rfl wt_2_160 wt_2_161 wt_2_162 wt_1_10 wt_2_163 ⟨rfl, hy_X1_has⟩ ⟨rfl, rfl⟩ ⟨Nat.le_of_ble_eq_true rfl, Nat.le_of_ble_eq_true rfl⟩ rfl hl.1 rfl (Nat.le_of_ble_eq_true rfl) dX11_shelf_27 rfl (fun H locs hP hS => ?_)
          refine lv_if_eq (tgt := 45) hx hb dX11_shelf_30 (by decide) (fun c_27 => ?_) (fun c_27 => ?_)
          · have h := ifp c_27 h
            refine lv_iconst (v := (-1)) hx hb dX11_shelf_45 (by decide) ?_
            exact r_iret X hP hS dX11_shelf_46 h
          · have h := ifn c_27 h
            exact tX11_shelf_33 hI    X a1 a2 a3 m_25 _ _ _  h hP hS (lv_sub hl [0, 1, 2, 3] rfl)
      · have h := ifn c_6 h
        refine lv_iconst (v := (-1)) hx hb dX11_shelf_16 (by decide) ?_
        exact r_iret X hP hS dX11_shelf_17 h

def fX11_holdsSet (a1 : Int32) (m : Mm) : Option (Int32 × Mm) := gx a1 4 ((if (m 60 (ix a1)) = 0 then bd (fX1_has 0 (m 61 (ix a1)) m) fun r_3 m_4 => (if r_3 = 0 then some (0, m_4) else some (1, m_4)) else some (0, m)))
set_option maxHeartbeats 4000000 in
set_option maxRecDepth 100000 in
theorem tX11_holdsSet {l : Launch} {D : va_G} {cA : Nat → ClassId} {A : Nat → Nat} (hI : InjA cN A) {a1 : Int32} {m m' : Mm} {r : Int32} (h : fX11_holdsSet a1 m = some (r, m')) : Met0 l yX11_holdsSet cX11_holdsSet 2 (some .boolean) { frames := 1, cells := 0, slots := 0, locals := 21 } cLay cN D cA A [.ref (A 0), .int a1] m (some (.int r)) m' := by
  refine met0_of (by decide) (Nat.le_of_ble_eq_true rfl) hI ?_
  intro p e s m0 below meth c ls X hinit hP hS hl
  generalize ([.ref (A 0), .int a1] : List Value).toArray = args at X ⊢
  have hl : lv_has ls 2 [(0, .ref (A 0)), (1, .int a1)] := hl
  have X : CX cLay cN D cA A p s m0 args meth c "BenchTowels" cX11_holdsSet 2 (some .boolean) := X
  have hx := X.1
  have hb := X.2.1
  have hml := X.2.2.1
  have hown := X.2.2.2.1
  have hts := X.2.2.2.2.1
  have hF := X.2.2.2.2.2.2.2.2.1
  rewrite [fX11_holdsSet] at h
  refine lv_aload_n hx hb dX11_holdsSet_0 rfl (lv_at hl 0 rfl) ?_
  refine r_get kc_11 11 X hP (by decide) (L_bt _) (by decide) rfl wt_2_106 dX11_holdsSet_1 ?_
  refine r_get kc_3 4 X hP (by decide) (L_host _) (by decide) rfl wt_2_52 dX11_holdsSet_4 ?_
  refine lv_iload_n hx hb dX11_holdsSet_7 rfl (lv_at hl 1 rfl) ?_
  obtain ⟨hin_1, h⟩ := gx_some h
  refine r_iald X hP (by decide) (La_60 _) hin_1 rfl dX11_holdsSet_8 ?_
  refine lv_if_ne (tgt := 35) hx hb dX11_holdsSet_9 (by decide) (fun c_2 => ?_) (fun c_2 => ?_)
  · have h := ifn c_2 h
    refine lv_iconst (v := 0) hx hb dX11_holdsSet_35 (by decide) ?_
    exact r_zret X (Or.inl rfl) hP hS dX11_holdsSet_36 h
  · have h := ifp c_2 h
    refine lv_aload_n hx hb dX11_holdsSet_12 rfl (lv_at hl 0 rfl) ?_
    refine r_get kc_11 7 X hP (by decide) (L_bt _) (by decide) rfl wt_2_102 dX11_holdsSet_13 ?_
    refine lv_aload_n hx hb dX11_holdsSet_16 rfl (lv_at hl 0 rfl) ?_
    refine r_get kc_11 11 X hP (by decide) (L_bt _) (by decide) rfl wt_2_106 dX11_holdsSet_17 ?_
    refine r_get kc_3 5 X hP (by decide) (L_host _) (by decide) rfl wt_2_54 dX11_holdsSet_20 ?_
    refine lv_iload_n hx hb dX11_holdsSet_23 rfl (lv_at hl 1 rfl) ?_
    refine r_iald X hP (by decide) (La_61 _) hin_1 rfl dX11_holdsSet_24 ?_
    obtain ⟨r_3, m_4, hc_5, h⟩ := bd_some h
    refine c_V (rest := []) X hP hS (tX1_has hI (by decide) hc_5) (lt_g (by decide) (by decide)) (L_gym (by decide) _) rfl wt_2_160 wt_2_161 wt_2_162 wt_1_10 wt_2_163 ⟨rfl, hy_X1_has⟩ ⟨rfl, rfl⟩ ⟨Nat.le_of_ble_eq_true rfl, Nat.le_of_ble_eq_true rfl⟩ rfl hl.1 rfl (Nat.le_of_ble_eq_true rfl) dX11_holdsSet_25 rfl (fun H locs hP hS => ?_)
    refine lv_if_eq (tgt := 35) hx hb dX11_holdsSet_28 (by decide) (fun c_6 => ?_) (fun c_6 => ?_)
    · have h := ifp c_6 h
      refine lv_iconst (v := 0) hx hb dX11_holdsSet_35 (by decide) ?_
      exact r_zret X (Or.inl rfl) hP hS dX11_holdsSet_36 h
    · have h := ifn c_6 h
      refine lv_iconst (v := 1) hx hb dX11_holdsSet_31 (by decide) ?_
      refine lv_goto (tgt := 36) hx hb dX11_holdsSet_32 (by decide) ?_
      exact r_zret X (Or.inr rfl) hP hS dX11_holdsSet_36 h

def fX11_taken_53  (x1 : Int32) (x2 : Int32) (x3 : Int32) (x4 : Int32) (m : Mm) : Option (Int32 × Mm) := gx x1 4 (lt (m 61 (ix x1)) fun x5_9 => (if (m 60 (ix x1)) = 1 then (if x4 = 0 then some ((-13), m) else (if x5_9 = (x2 - 10) then some ((m 62 (ix x1)), m) else some ((-13), m))) else bd (fX11_holdsSet x1 m) fun r_12 m_13 => (if r_12 = 0 then some ((-11), m_13) else (if x3 = 0 then some ((-13), m_13) else gx x5_9 6 (gx (m_13 (gp 0 2) (ix x5_9)) 6 ((if (((sIS (ix (m_13 (gp 0 2) (ix x5_9)))) >>> (x2 &&& 31)) &&& 1) = 1 then some (x5_9, m_13) else some ((-13), m_13))))))))
set_option maxHeartbeats 4000000 in
set_option maxRecDepth 100000 in
theorem tX11_taken_53 (hI : InjA cN A)  {r : Int32} {m' : Mm} (X : CX cLay cN D cA A p s m0 args meth c "BenchTowels" cX11_taken 6 (some .int)) : ∀ (x1 : Int32) (x2 : Int32) (x3 : Int32) (x4 : Int32) (m : Mm) (H : Heap) (locs : List Loc) (ls : Array Slot), fX11_taken_53 x1 x2 x3 x4 m = some (r, m') → va_P D vwCl (wsOf cLay cN cA A m) H → va_S (AW cN A) s.heap H locs → lv_has ls 6 [(0, .ref (A 0)), (1, .int x1), (2, .int x2), (3, .int x3), (4, .int x4)] → W p l e { frames := 2, cells := 0, slots := 0, locals := 42 } s m0 args below meth c H locs 0 0 (ZR below args s cLay cN D cA A (some (.int r)) m') (F0 m0 53 ls []) := by
  have hx := X.1
  have hb := X.2.1
  have hml := X.2.2.1
  have hown := X.2.2.2.1
  have hts := X.2.2.2.2.1
  have hF := X.2.2.2.2.2.2.2.2.1
  intro x1 x2 x3 x4 m H locs ls h hP hS hl
  rewrite [fX11_taken_53] at h
  refine lv_aload_n hx hb dX11_taken_53 rfl (lv_at hl 0 rfl) ?_
  refine r_get kc_11 11 X hP (by decide) (L_bt _) (by decide) rfl wt_2_106 dX11_taken_54 ?_
  refine r_get kc_3 5 X hP (by decide) (L_host _) (by decide) rfl wt_2_54 dX11_taken_57 ?_
  refine lv_iload_n hx hb dX11_taken_60 rfl (lv_at hl 1 rfl) ?_
  obtain ⟨hin_8, h⟩ := gx_some h
  refine r_iald X hP (by decide) (La_61 _) hin_8 rfl dX11_taken_61 ?_
  obtain ⟨x5_9, ex_10, h⟩ := lt_some h
  refine lv_ren ex_10 ?_
  refine lv_istore (lv' := [(5, .int x5_9), (0, .ref (A 0)), (1, .int x1), (2, .int x2), (3, .int x3), (4, .int x4)]) hx hb dX11_taken_62 hl (by decide) rfl (fun ls hl => ?_)
  refine lv_aload_n hx hb dX11_taken_64 rfl (lv_at hl 1 rfl) ?_
  refine r_get kc_11 11 X hP (by decide) (L_bt _) (by decide) rfl wt_2_106 dX11_taken_65 ?_
  refine r_get kc_3 4 X hP (by decide) (L_host _) (by decide) rfl wt_2_52 dX11_taken_68 ?_
  refine lv_iload_n hx hb dX11_taken_71 rfl (lv_at hl 2 rfl) ?_
  refine r_iald X hP (by decide) (La_60 _) hin_8 rfl dX11_taken_72 ?_
  refine lv_iconst (v := 1) hx hb dX11_taken_73 (by decide) ?_
  refine lv_icmp_ne (tgt := 106) hx hb dX11_taken_74 (by decide) (fun c_11 => ?_) (fun c_11 => ?_)
  · have h := ifn c_11 h
    refine lv_aload_n hx hb dX11_taken_106 rfl (lv_at hl 1 rfl) ?_
    refine lv_iload_n hx hb dX11_taken_107 rfl (lv_at hl 2 rfl) ?_
    obtain ⟨r_12, m_13, hc_14, h⟩ := bd_some h
    refine c_V (rest := []) X hP hS (tX11_holdsSet hI  hc_14) (by decide) (L_bt _) rfl wt_5_45 wt_5_47 ws_2_7 wt_1_1 wt_5_48 ⟨rfl, hy_X11_holdsSet⟩ ⟨rfl, rfl⟩ ⟨Nat.le_of_ble_eq_true rfl, Nat.le_of_ble_eq_true rfl⟩ rfl hl.1 rfl (Nat.le_of_ble_eq_true rfl) dX11_taken_108 rfl (fun H locs hP hS => ?_)
    refine lv_if_ne (tgt := 117) hx hb dX11_taken_111 (by decide) (fun c_15 => ?_) (fun c_15 => ?_)
    · have h := ifn c_15 h
      refine lv_iload_n hx hb dX11_taken_117 rfl (lv_at hl 4 rfl) ?_
      refine lv_if_eq (tgt := 150) hx hb dX11_taken_118 (by decide) (fun c_16 => ?_) (fun c_16 => ?_)
      · have h := ifp c_16 h
        refine lv_bipush (v := (-13)) hx hb dX11_taken_150 (by decide) ?_
        exact r_iret X hP hS dX11_taken_152 h
      · have h := ifn c_16 h
        refine va_gets hx hb hF.2.2.2.1.1 hS hown (hts _ wt_5_49) (fun _ q => q) dX11_taken_121 ?_
        refine lv_aload_n hx hb dX11_taken_124 rfl (lv_at hl 1 rfl) ?_
        refine r_get kc_11 7 X hP (by decide) (L_bt _) (by decide) rfl wt_2_102 dX11_taken_125 ?_
        refine r_get kc_1 2 X hP (lt_g (by decide) (by decide)) (L_gym (by decide) _) (by decide) rfl wt_1_173 dX11_taken_128 ?_
        refine lv_iconst (v := 0) hx hb dX11_taken_131 (by decide) ?_
        refine r_row (q' := (gp 0 2)) X hP (lt_g (by decide) (by decide)) ((Lq_g_1 (by decide)) _) (vpc (by decide)) ixc_0 (by decide) rfl dX11_taken_132 ?_
        refine lv_iload hx hb dX11_taken_133 (lv_at hl 0 rfl) ?_
        obtain ⟨hin_17, h⟩ := gx_some h
        refine r_iald X hP (lt_g2 (j := 0) (by decide) (by decide)) ((La_g_row (j := 0) (by decide) (by decide)) _) hin_17 rfl dX11_taken_135 ?_
        obtain ⟨hin_18, h⟩ := gx_some h
        refine va_ti hx hb hF.2.2.2.1.2 hS hin_18 rfl dX11_taken_136 ?_
        refine lv_iload_n hx hb dX11_taken_137 rfl (lv_at hl 3 rfl) ?_
        refine lv_ishr hx hb dX11_taken_138 ?_
        refine lv_iconst (v := 1) hx hb dX11_taken_139 (by decide) ?_
        refine lv_iand hx hb dX11_taken_140 ?_
        refine lv_iconst (v := 1) hx hb dX11_taken_141 (by decide) ?_
        refine lv_icmp_ne (tgt := 150) hx hb dX11_taken_142 (by decide) (fun c_19 => ?_) (fun c_19 => ?_)
        · have h := ifn c_19 h
          refine lv_bipush (v := (-13)) hx hb dX11_taken_150 (by decide) ?_
          exact r_iret X hP hS dX11_taken_152 h
        · have h := ifp c_19 h
          refine lv_iload hx hb dX11_taken_145 (lv_at hl 0 rfl) ?_
          refine lv_goto (tgt := 152) hx hb dX11_taken_147 (by decide) ?_
          exact r_iret X hP hS dX11_taken_152 h
    · have h := ifp c_15 h
      refine lv_bipush (v := (-11)) hx hb dX11_taken_114 (by decide) ?_
      exact r_iret X hP hS dX11_taken_116 h
  · have h := ifp c_11 h
    refine lv_iload hx hb dX11_taken_77 (lv_at hl 5 rfl) ?_
    refine lv_if_eq (tgt := 103) hx hb dX11_taken_79 (by decide) (fun c_20 => ?_) (fun c_20 => ?_)
    · have h := ifp c_20 h
      refine lv_bipush (v := (-13)) hx hb dX11_taken_103 (by decide) ?_
      exact r_iret X hP hS dX11_taken_105 h
    · have h := ifn c_20 h
      refine lv_iload hx hb dX11_taken_82 (lv_at hl 0 rfl) ?_
      refine lv_iload_n hx hb dX11_taken_84 rfl (lv_at hl 3 rfl) ?_
      refine lv_bipush (v := 10) hx hb dX11_taken_85 (by decide) ?_
      refine lv_isub hx hb dX11_taken_87 ?_
      refine lv_icmp_ne (tgt := 103) hx hb dX11_taken_88 (by decide) (fun c_21 => ?_) (fun c_21 => ?_)
      · have h := ifn c_21 h
        refine lv_bipush (v := (-13)) hx hb dX11_taken_103 (by decide) ?_
        exact r_iret X hP hS dX11_taken_105 h
      · have h := ifp c_21 h
        refine lv_aload_n hx hb dX11_taken_91 rfl (lv_at hl 1 rfl) ?_
        refine r_get kc_11 11 X hP (by decide) (L_bt _) (by decide) rfl wt_2_106 dX11_taken_92 ?_
        refine r_get kc_3 6 X hP (by decide) (L_host _) (by decide) rfl wt_2_56 dX11_taken_95 ?_
        refine lv_iload_n hx hb dX11_taken_98 rfl (lv_at hl 2 rfl) ?_
        refine r_iald X hP (by decide) (La_62 _) hin_8 rfl dX11_taken_99 ?_
        refine lv_goto (tgt := 105) hx hb dX11_taken_100 (by decide) ?_
        exact r_iret X hP hS dX11_taken_105 h

def fX11_taken_33  (x1 : Int32) (x2 : Int32) (x3 : Int32) (s0 : Int32) (m : Mm) : Option (Int32 × Mm) := bd (fX11_isShelf x1 m) fun r_3 m_4 => (if r_3 = 0 then some ((-1), m_4) else (if x3 = 0 then (if s0 = 0 then some ((-1), m_4) else fX11_taken_53  x1 x2 x3 s0 m_4) else fX11_taken_53  x1 x2 x3 s0 m_4))
set_option maxHeartbeats 4000000 in
set_option maxRecDepth 100000 in
theorem tX11_taken_33 (hI : InjA cN A)  {r : Int32} {m' : Mm} (X : CX cLay cN D cA A p s m0 args meth c "BenchTowels" cX11_taken 6 (some .int)) : ∀ (x1 : Int32) (x2 : Int32) (x3 : Int32) (s0 : Int32) (m : Mm) (H : Heap) (locs : List Loc) (ls : Array Slot), fX11_taken_33 x1 x2 x3 s0 m = some (r, m') → va_P D vwCl (wsOf cLay cN cA A m) H → va_S (AW cN A) s.heap H locs → lv_has ls 6 [(0, .ref (A 0)), (1, .int x1), (2, .int x2), (3, .int x3)] → W p l e { frames := 2, cells := 0, slots := 0, locals := 42 } s m0 args below meth c H locs 0 0 (ZR below args s cLay cN D cA A (some (.int r)) m') (F0 m0 33 ls [.int s0]) := by
  have hx := X.1
  have hb := X.2.1
  have hml := X.2.2.1
  have hown := X.2.2.2.1
  have hts := X.2.2.2.2.1
  have hF := X.2.2.2.2.2.2.2.2.1
  intro x1 x2 x3 s0 m H locs ls h hP hS hl
  rewrite [fX11_taken_33] at h
  refine lv_istore (lv' := [(4, .int s0), (0, .ref (A 0)), (1, .int x1), (2, .int x2), (3, .int x3)]) hx hb dX11_taken_33 hl (by decide) rfl (fun ls hl => ?_)
  refine lv_iload_n hx hb dX11_taken_35 rfl (lv_at hl 2 rfl) ?_
  obtain ⟨r_3, m_4, hc_5, h⟩ := bd_some h
  refine c_S (rest := []) X hP hS (tX11_isShelf hI  hc_5) wt_5_30 wt_5_31 wt_1_1 wt_5_32 hy_X11_isShelf ⟨rfl, rfl⟩ ⟨Nat.le_of_ble_eq_true rfl, Nat.le_of_ble_eq_true rfl⟩ rfl hl.1 rfl (Nat.le_of_ble_eq_true rfl) dX11_taken_36 rfl (fun H locs hP hS => ?_)
  refine lv_if_eq (tgt := 51) hx hb dX11_taken_39 (by decide) (fun c_6 => ?_) (fun c_6 => ?_)
  · have h := ifp c_6 h
    refine lv_iconst (v := (-1)) hx hb dX11_taken_51 (by decide) ?_
    exact r_iret X hP hS dX11_taken_52 h
  · have h := ifn c_6 h
    refine lv_iload_n hx hb dX11_taken_42 rfl (lv_at hl 4 rfl) ?_
    refine lv_if_ne (tgt := 53) hx hb dX11_taken_43 (by decide) (fun c_7 => ?_) (fun c_7 => ?_)
    · have h := ifn c_7 h
      exact tX11_taken_53 hI    X x1 x2 x3 s0 m_4 _ _ _  h hP hS (lv_sub hl [1, 2, 3, 4, 0] rfl)
    · have h := ifp c_7 h
      refine lv_iload hx hb dX11_taken_46 (lv_at hl 0 rfl) ?_
      refine lv_if_ne (tgt := 53) hx hb dX11_taken_48 (by decide) (fun c_22 => ?_) (fun c_22 => ?_)
      · have h := ifn c_22 h
        exact tX11_taken_53 hI    X x1 x2 x3 s0 m_4 _ _ _  h hP hS (lv_sub hl [1, 2, 3, 4, 0] rfl)
      · have h := ifp c_22 h
        refine lv_iconst (v := (-1)) hx hb dX11_taken_51 (by decide) ?_
        exact r_iret X hP hS dX11_taken_52 h

def fX11_taken_15  (x1 : Int32) (x2 : Int32) (s0 : Int32) (m : Mm) : Option (Int32 × Mm) := (if x2 < 10 then (fX11_taken_33  x1 x2 s0 0 m) else (if (14 : Int32) < x2 then (fX11_taken_33  x1 x2 s0 0 m) else (fX11_taken_33  x1 x2 s0 1 m)))
set_option maxHeartbeats 4000000 in
set_option maxRecDepth 100000 in
theorem tX11_taken_15 (hI : InjA cN A)  {r : Int32} {m' : Mm} (X : CX cLay cN D cA A p s m0 args meth c "BenchTowels" cX11_taken 6 (some .int)) : ∀ (x1 : Int32) (x2 : Int32) (s0 : Int32) (m : Mm) (H : Heap) (locs : List Loc) (ls : Array Slot), fX11_taken_15 x1 x2 s0 m = some (r, m') → va_P D vwCl (wsOf cLay cN cA A m) H → va_S (AW cN A) s.heap H locs → lv_has ls 6 [(0, .ref (A 0)), (1, .int x1), (2, .int x2)] → W p l e { frames := 2, cells := 0, slots := 0, locals := 42 } s m0 args below meth c H locs 0 0 (ZR below args s cLay cN D cA A (some (.int r)) m') (F0 m0 15 ls [.int s0]) := by
  have hx := X.1
  have hb := X.2.1
  have hml := X.2.2.1
  have hown := X.2.2.2.1
  have hts := X.2.2.2.2.1
  have hF := X.2.2.2.2.2.2.2.2.1
  intro x1 x2 s0 m H locs ls h hP hS hl
  rewrite [fX11_taken_15] at h
  refine lv_istore_n (lv' := [(3, .int s0), (0, .ref (A 0)), (1, .int x1), (2, .int x2)]) hx hb dX11_taken_15 rfl hl (by decide) rfl (fun ls hl => ?_)
  refine lv_iload_n hx hb dX11_taken_16 rfl (lv_at hl 3 rfl) ?_
  refine lv_bipush (v := 10) hx hb dX11_taken_17 (by decide) ?_
  refine lv_icmp_lt (tgt := 32) hx hb dX11_taken_19 (by decide) (fun c_2 => ?_) (fun c_2 => ?_)
  · have h := ifp c_2 h
    refine lv_iconst (v := 0) hx hb dX11_taken_32 (by decide) ?_
    exact tX11_taken_33 hI    X x1 x2 s0 0 m _ _ _  h hP hS (lv_sub hl [1, 2, 3, 0] rfl)
  · have h := ifn c_2 h
    refine lv_iload_n hx hb dX11_taken_22 rfl (lv_at hl 3 rfl) ?_
    refine lv_bipush (v := 14) hx hb dX11_taken_23 (by decide) ?_
    refine lv_icmp_gt (tgt := 32) hx hb dX11_taken_25 (by decide) (fun c_23 => ?_) (fun c_23 => ?_)
    · have h := ifp c_23 h
      refine lv_iconst (v := 0) hx hb dX11_taken_32 (by decide) ?_
      exact tX11_taken_33 hI    X x1 x2 s0 0 m _ _ _  h hP hS (lv_sub hl [1, 2, 3, 0] rfl)
    · have h := ifn c_23 h
      refine lv_iconst (v := 1) hx hb dX11_taken_28 (by decide) ?_
      refine lv_goto (tgt := 33) hx hb dX11_taken_29 (by decide) ?_
      exact tX11_taken_33 hI    X x1 x2 s0 1 m _ _ _  h hP hS (lv_sub hl [1, 2, 3, 0] rfl)

def fX11_taken (a1 : Int32) (a2 : Int32) (m : Mm) : Option (Int32 × Mm) := (if a2 < 0 then (fX11_taken_15  a1 a2 0 m) else (if (6 : Int32) ≤ a2 then (fX11_taken_15  a1 a2 0 m) else (fX11_taken_15  a1 a2 1 m)))
set_option maxHeartbeats 4000000 in
set_option maxRecDepth 100000 in
theorem tX11_taken {l : Launch} {D : va_G} {cA : Nat → ClassId} {A : Nat → Nat} (hI : InjA cN A) {a1 : Int32} {a2 : Int32} {m m' : Mm} {r : Int32} (h : fX11_taken a1 a2 m = some (r, m')) : Met0 l yX11_taken cX11_taken 6 (some .int) { frames := 2, cells := 0, slots := 0, locals := 42 } cLay cN D cA A [.ref (A 0), .int a1, .int a2] m (some (.int r)) m' := by
  refine met0_of (by decide) (Nat.le_of_ble_eq_true rfl) hI ?_
  intro p e s m0 below meth c ls X hinit hP hS hl
  generalize ([.ref (A 0), .int a1, .int a2] : List Value).toArray = args at X ⊢
  have hl : lv_has ls 6 [(0, .ref (A 0)), (1, .int a1), (2, .int a2)] := hl
  have X : CX cLay cN D cA A p s m0 args meth c "BenchTowels" cX11_taken 6 (some .int) := X
  have hx := X.1
  have hb := X.2.1
  have hml := X.2.2.1
  have hown := X.2.2.2.1
  have hts := X.2.2.2.2.1
  have hF := X.2.2.2.2.2.2.2.2.1
  rewrite [fX11_taken] at h
  refine lv_iload_n hx hb dX11_taken_0 rfl (lv_at hl 2 rfl) ?_
  refine lv_if_lt (tgt := 14) hx hb dX11_taken_1 (by decide) (fun c_1 => ?_) (fun c_1 => ?_)
  · have h := ifp c_1 h
    refine lv_iconst (v := 0) hx hb dX11_taken_14 (by decide) ?_
    exact tX11_taken_15 hI    X a1 a2 0 m _ _ _  h hP hS (lv_sub hl [0, 1, 2] rfl)
  · have h := ifn c_1 h
    refine lv_iload_n hx hb dX11_taken_4 rfl (lv_at hl 2 rfl) ?_
    refine lv_bipush (v := 6) hx hb dX11_taken_5 (by decide) ?_
    refine lv_icmp_ge (tgt := 14) hx hb dX11_taken_7 (by decide) (fun c_24 => ?_) (fun c_24 => ?_)
    · have h := ifp c_24 h
      refine lv_iconst (v := 0) hx hb dX11_taken_14 (by decide) ?_
      exact tX11_taken_15 hI    X a1 a2 0 m _ _ _  h hP hS (lv_sub hl [0, 1, 2] rfl)
    · have h := ifn c_24 h
      refine lv_iconst (v := 1) hx hb dX11_taken_10 (by decide) ?_
      refine lv_goto (tgt := 15) hx hb dX11_taken_11 (by decide) ?_
      exact tX11_taken_15 hI    X a1 a2 1 m _ _ _  h hP hS (lv_sub hl [0, 1, 2] rfl)

set_option maxHeartbeats 4000000 in
theorem vc_11_337 {R : Room} {H : Heap} {locs : List Loc} {Q : State → Prop} {m m1 : Mm} {cc : ByteArray} {nL pc pc' : Nat} {ret : Option FieldType} {ls : Array Slot} {rest : List Value} {k : Nat} {r : Int32} {a2 : Int32} (X : CX cLay cN D cA A p s m0 args meth c "BenchTowels" cc nL ret) (hP : va_P D vwCl (wsOf cLay cN cA A m) H) (hS : va_S (AW cN A) s.heap H locs) (hI : InjA cN A) (hk : k < 6) (hv : v_lifts k a2 m = some (r, m1)) (hR : 2 + 1 ≤ R.frames ∧ 19 + 46 ≤ R.locals) (hs : ls.size = nL) (hW : (rest.map fun v => v.category).sum ≤ 8) (hdg : decode cc pc = .ok (.invokevirtual 337, 3)) (hpc : pc + 3 = pc')
    (kk : ∀ (H1 : Heap) (locs1 : List Loc), va_P D vwCl (wsOf cLay cN cA A m1) H1 → va_S (AW cN A) s.heap H1 locs1 → W p l e R s m0 args below meth c H1 locs1 0 0 Q (F0 m0 pc' ls (.int r :: rest))) : W p l e R s m0 args below meth c H locs 0 0 Q (F0 m0 pc ls (.int a2 :: .ref (A 52) :: .ref (A (kp k)) :: rest)) := by
  unfold v_lifts at hv
  rcases (show k = 0 ∨ k = 1 ∨ k = 2 ∨ k = 3 ∨ k = 4 ∨ k = 5 by omega) with rfl | rfl | rfl | rfl | rfl | rfl
  · have hv := ifp rfl hv
    exact c_U (rest := rest) "BenchTowels$Plain" X hP hS (tX6_lifts hI (by decide) hv) (lt_k (by decide)) (L_kind (by decide) _) rfl wt_5_58 wt_5_61 wt_5_59 wt_5_60 wt_5_59 wt_1_4 wt_5_80 wt_5_80 hyU_X6_lifts ⟨rfl, rfl⟩ ⟨Nat.le_trans (Nat.le_of_ble_eq_true rfl) hR.1, Nat.le_trans (Nat.le_of_ble_eq_true rfl) hR.2⟩ rfl hs rfl hW hdg hpc kk
  · have hv := ifn (by decide) hv
    have hv := ifp rfl hv
    exact c_U (rest := rest) "BenchTowels$Plain" X hP hS (tX0_lifts hI  hv) (lt_k (by decide)) (L_kind (by decide) _) rfl wt_5_58 wt_5_61 wt_5_59 wt_5_62 wt_5_63 wt_1_5 wt_5_64 wt_5_80 hyU_X6_lifts ⟨rfl, rfl⟩ ⟨Nat.le_trans (Nat.le_of_ble_eq_true rfl) hR.1, Nat.le_trans (Nat.le_of_ble_eq_true rfl) hR.2⟩ rfl hs rfl hW hdg hpc kk
  · have hv := ifn (by decide) hv
    have hv := ifn (by decide) hv
    have hv := ifp rfl hv
    exact c_U (rest := rest) "BenchTowels$Plain" X hP hS (tX6_lifts hI (by decide) hv) (lt_k (by decide)) (L_kind (by decide) _) rfl wt_5_58 wt_5_61 wt_5_59 wt_5_78 wt_5_59 wt_1_4 wt_5_80 wt_5_80 hyU_X6_lifts ⟨rfl, rfl⟩ ⟨Nat.le_trans (Nat.le_of_ble_eq_true rfl) hR.1, Nat.le_trans (Nat.le_of_ble_eq_true rfl) hR.2⟩ rfl hs rfl hW hdg hpc kk
  · have hv := ifn (by decide) hv
    have hv := ifn (by decide) hv
    have hv := ifn (by decide) hv
    have hv := ifp rfl hv
    exact c_U (rest := rest) "BenchTowels$Plain" X hP hS (tX5_lifts hI  hv) (lt_k (by decide)) (L_kind (by decide) _) rfl wt_5_58 wt_5_61 wt_5_59 wt_5_71 wt_5_72 wt_1_7 wt_5_73 wt_5_80 hyU_X6_lifts ⟨rfl, rfl⟩ ⟨Nat.le_trans (Nat.le_of_ble_eq_true rfl) hR.1, Nat.le_trans (Nat.le_of_ble_eq_true rfl) hR.2⟩ rfl hs rfl hW hdg hpc kk
  · have hv := ifn (by decide) hv
    have hv := ifn (by decide) hv
    have hv := ifn (by decide) hv
    have hv := ifn (by decide) hv
    have hv := ifp rfl hv
    exact c_U (rest := rest) "BenchTowels$Plain" X hP hS (tX6_lifts hI (by decide) hv) (lt_k (by decide)) (L_kind (by decide) _) rfl wt_5_58 wt_5_61 wt_5_59 wt_5_70 wt_5_59 wt_1_4 wt_5_80 wt_5_80 hyU_X6_lifts ⟨rfl, rfl⟩ ⟨Nat.le_trans (Nat.le_of_ble_eq_true rfl) hR.1, Nat.le_trans (Nat.le_of_ble_eq_true rfl) hR.2⟩ rfl hs rfl hW hdg hpc kk
  · have hv := ifn (by decide) hv
    have hv := ifn (by decide) hv
    have hv := ifn (by decide) hv
    have hv := ifn (by decide) hv
    have hv := ifn (by decide) hv
    have hv := ifp rfl hv
    exact c_U (rest := rest) "BenchTowels$Plain" X hP hS (tX6_lifts hI (by decide) hv) (lt_k (by decide)) (L_kind (by decide) _) rfl wt_5_58 wt_5_61 wt_5_59 wt_5_79 wt_5_59 wt_1_4 wt_5_80 wt_5_80 hyU_X6_lifts ⟨rfl, rfl⟩ ⟨Nat.le_trans (Nat.le_of_ble_eq_true rfl) hR.1, Nat.le_trans (Nat.le_of_ble_eq_true rfl) hR.2⟩ rfl hs rfl hW hdg hpc kk

set_option maxHeartbeats 4000000 in
theorem vc_11_341 {R : Room} {H : Heap} {locs : List Loc} {Q : State → Prop} {m m1 : Mm} {cc : ByteArray} {nL pc pc' : Nat} {ret : Option FieldType} {ls : Array Slot} {rest : List Value} {k : Nat} {r : Int32} {a2 : Int32} (X : CX cLay cN D cA A p s m0 args meth c "BenchTowels" cc nL ret) (hP : va_P D vwCl (wsOf cLay cN cA A m) H) (hS : va_S (AW cN A) s.heap H locs) (hI : InjA cN A) (hk : k < 6) (hv : v_groans k a2 m = some (r, m1)) (hR : 4 + 1 ≤ R.frames ∧ 19 + 90 ≤ R.locals) (hs : ls.size = nL) (hW : (rest.map fun v => v.category).sum ≤ 8) (hdg : decode cc pc = .ok (.invokevirtual 341, 3)) (hpc : pc + 3 = pc')
    (kk : ∀ (H1 : Heap) (locs1 : List Loc), va_P D vwCl (wsOf cLay cN cA A m1) H1 → va_S (AW cN A) s.heap H1 locs1 → W p l e R s m0 args below meth c H1 locs1 0 0 Q (F0 m0 pc' ls (.int r :: rest))) : W p l e R s m0 args below meth c H locs 0 0 Q (F0 m0 pc ls (.int a2 :: .ref (A 52) :: .ref (A (kp k)) :: rest)) := by
  unfold v_groans at hv
  rcases (show k = 0 ∨ k = 1 ∨ k = 2 ∨ k = 3 ∨ k = 4 ∨ k = 5 by omega) with rfl | rfl | rfl | rfl | rfl | rfl
  · have hv := ifp rfl hv
    exact c_U (rest := rest) "BenchTowels$Plain" X hP hS (tX6_groans hI (by decide) hv) (lt_k (by decide)) (L_kind (by decide) _) rfl wt_5_82 wt_5_85 wt_5_83 wt_5_84 wt_5_83 wt_1_4 wt_5_101 wt_5_101 hyU_X6_groans ⟨rfl, rfl⟩ ⟨Nat.le_trans (Nat.le_of_ble_eq_true rfl) hR.1, Nat.le_trans (Nat.le_of_ble_eq_true rfl) hR.2⟩ rfl hs rfl hW hdg hpc kk
  · have hv := ifn (by decide) hv
    have hv := ifp rfl hv
    exact c_U (rest := rest) "BenchTowels$Plain" X hP hS (tX6_groans hI (by decide) hv) (lt_k (by decide)) (L_kind (by decide) _) rfl wt_5_82 wt_5_85 wt_5_83 wt_5_86 wt_5_83 wt_1_4 wt_5_101 wt_5_101 hyU_X6_groans ⟨rfl, rfl⟩ ⟨Nat.le_trans (Nat.le_of_ble_eq_true rfl) hR.1, Nat.le_trans (Nat.le_of_ble_eq_true rfl) hR.2⟩ rfl hs rfl hW hdg hpc kk
  · have hv := ifn (by decide) hv
    have hv := ifn (by decide) hv
    have hv := ifp rfl hv
    exact c_U (rest := rest) "BenchTowels$Plain" X hP hS (tX9_groans hI (by decide) hv) (lt_k (by decide)) (L_kind (by decide) _) rfl wt_5_82 wt_5_85 wt_5_83 wt_5_93 wt_5_89 wt_1_6 wt_5_90 wt_5_101 hyU_X6_groans ⟨rfl, rfl⟩ ⟨Nat.le_trans (Nat.le_of_ble_eq_true rfl) hR.1, Nat.le_trans (Nat.le_of_ble_eq_true rfl) hR.2⟩ rfl hs rfl hW hdg hpc kk
  · have hv := ifn (by decide) hv
    have hv := ifn (by decide) hv
    have hv := ifn (by decide) hv
    have hv := ifp rfl hv
    exact c_U (rest := rest) "BenchTowels$Plain" X hP hS (tX9_groans hI (by decide) hv) (lt_k (by decide)) (L_kind (by decide) _) rfl wt_5_82 wt_5_85 wt_5_83 wt_5_88 wt_5_89 wt_1_6 wt_5_90 wt_5_101 hyU_X6_groans ⟨rfl, rfl⟩ ⟨Nat.le_trans (Nat.le_of_ble_eq_true rfl) hR.1, Nat.le_trans (Nat.le_of_ble_eq_true rfl) hR.2⟩ rfl hs rfl hW hdg hpc kk
  · have hv := ifn (by decide) hv
    have hv := ifn (by decide) hv
    have hv := ifn (by decide) hv
    have hv := ifn (by decide) hv
    have hv := ifp rfl hv
    exact c_U (rest := rest) "BenchTowels$Plain" X hP hS (tX6_groans hI (by decide) hv) (lt_k (by decide)) (L_kind (by decide) _) rfl wt_5_82 wt_5_85 wt_5_83 wt_5_87 wt_5_83 wt_1_4 wt_5_101 wt_5_101 hyU_X6_groans ⟨rfl, rfl⟩ ⟨Nat.le_trans (Nat.le_of_ble_eq_true rfl) hR.1, Nat.le_trans (Nat.le_of_ble_eq_true rfl) hR.2⟩ rfl hs rfl hW hdg hpc kk
  · have hv := ifn (by decide) hv
    have hv := ifn (by decide) hv
    have hv := ifn (by decide) hv
    have hv := ifn (by decide) hv
    have hv := ifn (by decide) hv
    have hv := ifp rfl hv
    exact c_U (rest := rest) "BenchTowels$Plain" X hP hS (tX10_groans hI  hv) (lt_k (by decide)) (L_kind (by decide) _) rfl wt_5_82 wt_5_85 wt_5_83 wt_5_94 wt_5_95 wt_1_9 wt_5_96 wt_5_101 hyU_X6_groans ⟨rfl, rfl⟩ ⟨Nat.le_trans (Nat.le_of_ble_eq_true rfl) hR.1, Nat.le_trans (Nat.le_of_ble_eq_true rfl) hR.2⟩ rfl hs rfl hW hdg hpc kk

set_option maxHeartbeats 4000000 in
theorem vc_11_344 {R : Room} {H : Heap} {locs : List Loc} {Q : State → Prop} {m m1 : Mm} {cc : ByteArray} {nL pc pc' : Nat} {ret : Option FieldType} {ls : Array Slot} {rest : List Value} {k : Nat} {r : Int32} {a2 : Int32} (X : CX cLay cN D cA A p s m0 args meth c "BenchTowels" cc nL ret) (hP : va_P D vwCl (wsOf cLay cN cA A m) H) (hS : va_S (AW cN A) s.heap H locs) (hI : InjA cN A) (hk : k < 6) (hv : v_parts k a2 m = some (r, m1)) (hR : 3 + 1 ≤ R.frames ∧ 19 + 69 ≤ R.locals) (hs : ls.size = nL) (hW : (rest.map fun v => v.category).sum ≤ 8) (hdg : decode cc pc = .ok (.invokevirtual 344, 3)) (hpc : pc + 3 = pc')
    (kk : ∀ (H1 : Heap) (locs1 : List Loc), va_P D vwCl (wsOf cLay cN cA A m1) H1 → va_S (AW cN A) s.heap H1 locs1 → W p l e R s m0 args below meth c H1 locs1 0 0 Q (F0 m0 pc' ls (.int r :: rest))) : W p l e R s m0 args below meth c H locs 0 0 Q (F0 m0 pc ls (.int a2 :: .ref (A 52) :: .ref (A (kp k)) :: rest)) := by
  unfold v_parts at hv
  rcases (show k = 0 ∨ k = 1 ∨ k = 2 ∨ k = 3 ∨ k = 4 ∨ k = 5 by omega) with rfl | rfl | rfl | rfl | rfl | rfl
  · have hv := ifp rfl hv
    exact c_U (rest := rest) "BenchTowels$Plain" X hP hS (tX6_parts hI (by decide) hv) (lt_k (by decide)) (L_kind (by decide) _) rfl wt_5_103 wt_5_106 wt_5_104 wt_5_105 wt_5_104 wt_1_4 wt_5_122 wt_5_122 hyU_X6_parts ⟨rfl, rfl⟩ ⟨Nat.le_trans (Nat.le_of_ble_eq_true rfl) hR.1, Nat.le_trans (Nat.le_of_ble_eq_true rfl) hR.2⟩ rfl hs rfl hW hdg hpc kk
  · have hv := ifn (by decide) hv
    have hv := ifp rfl hv
    exact c_U (rest := rest) "BenchTowels$Plain" X hP hS (tX6_parts hI (by decide) hv) (lt_k (by decide)) (L_kind (by decide) _) rfl wt_5_103 wt_5_106 wt_5_104 wt_5_107 wt_5_104 wt_1_4 wt_5_122 wt_5_122 hyU_X6_parts ⟨rfl, rfl⟩ ⟨Nat.le_trans (Nat.le_of_ble_eq_true rfl) hR.1, Nat.le_trans (Nat.le_of_ble_eq_true rfl) hR.2⟩ rfl hs rfl hW hdg hpc kk
  · have hv := ifn (by decide) hv
    have hv := ifn (by decide) hv
    have hv := ifp rfl hv
    exact c_U (rest := rest) "BenchTowels$Plain" X hP hS (tX6_parts hI (by decide) hv) (lt_k (by decide)) (L_kind (by decide) _) rfl wt_5_103 wt_5_106 wt_5_104 wt_5_114 wt_5_104 wt_1_4 wt_5_122 wt_5_122 hyU_X6_parts ⟨rfl, rfl⟩ ⟨Nat.le_trans (Nat.le_of_ble_eq_true rfl) hR.1, Nat.le_trans (Nat.le_of_ble_eq_true rfl) hR.2⟩ rfl hs rfl hW hdg hpc kk
  · have hv := ifn (by decide) hv
    have hv := ifn (by decide) hv
    have hv := ifn (by decide) hv
    have hv := ifp rfl hv
    exact c_U (rest := rest) "BenchTowels$Plain" X hP hS (tX6_parts hI (by decide) hv) (lt_k (by decide)) (L_kind (by decide) _) rfl wt_5_103 wt_5_106 wt_5_104 wt_5_113 wt_5_104 wt_1_4 wt_5_122 wt_5_122 hyU_X6_parts ⟨rfl, rfl⟩ ⟨Nat.le_trans (Nat.le_of_ble_eq_true rfl) hR.1, Nat.le_trans (Nat.le_of_ble_eq_true rfl) hR.2⟩ rfl hs rfl hW hdg hpc kk
  · have hv := ifn (by decide) hv
    have hv := ifn (by decide) hv
    have hv := ifn (by decide) hv
    have hv := ifn (by decide) hv
    have hv := ifp rfl hv
    exact c_U (rest := rest) "BenchTowels$Plain" X hP hS (tX2_parts hI (by decide) hv) (lt_k (by decide)) (L_kind (by decide) _) rfl wt_5_103 wt_5_106 wt_5_104 wt_5_108 wt_5_109 wt_1_8 wt_5_110 wt_5_122 hyU_X6_parts ⟨rfl, rfl⟩ ⟨Nat.le_trans (Nat.le_of_ble_eq_true rfl) hR.1, Nat.le_trans (Nat.le_of_ble_eq_true rfl) hR.2⟩ rfl hs rfl hW hdg hpc kk
  · have hv := ifn (by decide) hv
    have hv := ifn (by decide) hv
    have hv := ifn (by decide) hv
    have hv := ifn (by decide) hv
    have hv := ifn (by decide) hv
    have hv := ifp rfl hv
    exact c_U (rest := rest) "BenchTowels$Plain" X hP hS (tX10_parts hI  hv) (lt_k (by decide)) (L_kind (by decide) _) rfl wt_5_103 wt_5_106 wt_5_104 wt_5_115 wt_5_116 wt_1_9 wt_5_117 wt_5_122 hyU_X6_parts ⟨rfl, rfl⟩ ⟨Nat.le_trans (Nat.le_of_ble_eq_true rfl) hR.1, Nat.le_trans (Nat.le_of_ble_eq_true rfl) hR.2⟩ rfl hs rfl hW hdg hpc kk

def v_wipes (k : Nat) (a2 : Int32) (m : Mm) : Option (Int32 × Mm) := if k = 0 then fX6_wipes k a2 m else if k = 1 then fX6_wipes k a2 m else if k = 2 then fX6_wipes k a2 m else if k = 3 then fX5_wipes a2 m else if k = 4 then fX6_wipes k a2 m else if k = 5 then fX6_wipes k a2 m else none

set_option maxHeartbeats 4000000 in
theorem vc_11_347 {R : Room} {H : Heap} {locs : List Loc} {Q : State → Prop} {m m1 : Mm} {cc : ByteArray} {nL pc pc' : Nat} {ret : Option FieldType} {ls : Array Slot} {rest : List Value} {k : Nat} {r : Int32} {a2 : Int32} (X : CX cLay cN D cA A p s m0 args meth c "BenchTowels" cc nL ret) (hP : va_P D vwCl (wsOf cLay cN cA A m) H) (hS : va_S (AW cN A) s.heap H locs) (hI : InjA cN A) (hk : k < 6) (hv : v_wipes k a2 m = some (r, m1)) (hR : 6 + 1 ≤ R.frames ∧ 19 + 134 ≤ R.locals) (hs : ls.size = nL) (hW : (rest.map fun v => v.category).sum ≤ 8) (hdg : decode cc pc = .ok (.invokevirtual 347, 3)) (hpc : pc + 3 = pc')
    (kk : ∀ (H1 : Heap) (locs1 : List Loc), va_P D vwCl (wsOf cLay cN cA A m1) H1 → va_S (AW cN A) s.heap H1 locs1 → W p l e R s m0 args below meth c H1 locs1 0 0 Q (F0 m0 pc' ls (.int r :: rest))) : W p l e R s m0 args below meth c H locs 0 0 Q (F0 m0 pc ls (.int a2 :: .ref (A 52) :: .ref (A (kp k)) :: rest)) := by
  unfold v_wipes at hv
  rcases (show k = 0 ∨ k = 1 ∨ k = 2 ∨ k = 3 ∨ k = 4 ∨ k = 5 by omega) with rfl | rfl | rfl | rfl | rfl | rfl
  · have hv := ifp rfl hv
    exact c_U (rest := rest) "BenchTowels$Plain" X hP hS (tX6_wipes hI (by decide) hv) (lt_k (by decide)) (L_kind (by decide) _) rfl wt_5_123 wt_5_126 wt_5_124 wt_5_125 wt_5_124 wt_1_4 wt_5_141 wt_5_141 hyU_X6_wipes ⟨rfl, rfl⟩ ⟨Nat.le_trans (Nat.le_of_ble_eq_true rfl) hR.1, Nat.le_trans (Nat.le_of_ble_eq_true rfl) hR.2⟩ rfl hs rfl hW hdg hpc kk
  · have hv := ifn (by decide) hv
    have hv := ifp rfl hv
    exact c_U (rest := rest) "BenchTowels$Plain" X hP hS (tX6_wipes hI (by decide) hv) (lt_k (by decide)) (L_kind (by decide) _) rfl wt_5_123 wt_5_126 wt_5_124 wt_5_127 wt_5_124 wt_1_4 wt_5_141 wt_5_141 hyU_X6_wipes ⟨rfl, rfl⟩ ⟨Nat.le_trans (Nat.le_of_ble_eq_true rfl) hR.1, Nat.le_trans (Nat.le_of_ble_eq_true rfl) hR.2⟩ rfl hs rfl hW hdg hpc kk
  · have hv := ifn (by decide) hv
    have hv := ifn (by decide) hv
    have hv := ifp rfl hv
    exact c_U (rest := rest) "BenchTowels$Plain" X hP hS (tX6_wipes hI (by decide) hv) (lt_k (by decide)) (L_kind (by decide) _) rfl wt_5_123 wt_5_126 wt_5_124 wt_5_139 wt_5_124 wt_1_4 wt_5_141 wt_5_141 hyU_X6_wipes ⟨rfl, rfl⟩ ⟨Nat.le_trans (Nat.le_of_ble_eq_true rfl) hR.1, Nat.le_trans (Nat.le_of_ble_eq_true rfl) hR.2⟩ rfl hs rfl hW hdg hpc kk
  · have hv := ifn (by decide) hv
    have hv := ifn (by decide) hv
    have hv := ifn (by decide) hv
    have hv := ifp rfl hv
    exact c_U (rest := rest) "BenchTowels$Plain" X hP hS (tX5_wipes hI  hv) (lt_k (by decide)) (L_kind (by decide) _) rfl wt_5_123 wt_5_126 wt_5_124 wt_5_129 wt_5_130 wt_1_7 wt_5_131 wt_5_141 hyU_X6_wipes ⟨rfl, rfl⟩ ⟨Nat.le_trans (Nat.le_of_ble_eq_true rfl) hR.1, Nat.le_trans (Nat.le_of_ble_eq_true rfl) hR.2⟩ rfl hs rfl hW hdg hpc kk
  · have hv := ifn (by decide) hv
    have hv := ifn (by decide) hv
    have hv := ifn (by decide) hv
    have hv := ifn (by decide) hv
    have hv := ifp rfl hv
    exact c_U (rest := rest) "BenchTowels$Plain" X hP hS (tX6_wipes hI (by decide) hv) (lt_k (by decide)) (L_kind (by decide) _) rfl wt_5_123 wt_5_126 wt_5_124 wt_5_128 wt_5_124 wt_1_4 wt_5_141 wt_5_141 hyU_X6_wipes ⟨rfl, rfl⟩ ⟨Nat.le_trans (Nat.le_of_ble_eq_true rfl) hR.1, Nat.le_trans (Nat.le_of_ble_eq_true rfl) hR.2⟩ rfl hs rfl hW hdg hpc kk
  · have hv := ifn (by decide) hv
    have hv := ifn (by decide) hv
    have hv := ifn (by decide) hv
    have hv := ifn (by decide) hv
    have hv := ifn (by decide) hv
    have hv := ifp rfl hv
    exact c_U (rest := rest) "BenchTowels$Plain" X hP hS (tX6_wipes hI (by decide) hv) (lt_k (by decide)) (L_kind (by decide) _) rfl wt_5_123 wt_5_126 wt_5_124 wt_5_140 wt_5_124 wt_1_4 wt_5_141 wt_5_141 hyU_X6_wipes ⟨rfl, rfl⟩ ⟨Nat.le_trans (Nat.le_of_ble_eq_true rfl) hR.1, Nat.le_trans (Nat.le_of_ble_eq_true rfl) hR.2⟩ rfl hs rfl hW hdg hpc kk

def fX11_act_145  (x6 : Int32) (m : Mm) : Option (Int32 × Mm) := (if (m 52 9) = 0 then some (x6, m) else some ((-15), m))
set_option maxHeartbeats 4000000 in
set_option maxRecDepth 100000 in
theorem tX11_act_145 (hI : InjA cN A)  {r : Int32} {m' : Mm} (X : CX cLay cN D cA A p s m0 args meth c "BenchTowels" cX11_act 7 (some .int)) : ∀ (x6 : Int32) (m : Mm) (H : Heap) (locs : List Loc) (ls : Array Slot), fX11_act_145 x6 m = some (r, m') → va_P D vwCl (wsOf cLay cN cA A m) H → va_S (AW cN A) s.heap H locs → lv_has ls 7 [(0, .ref (A 0)), (6, .int x6)] → W p l e { frames := 7, cells := 0, slots := 0, locals := 153 } s m0 args below meth c H locs 0 0 (ZR below args s cLay cN D cA A (some (.int r)) m') (F0 m0 145 ls []) := by
  have hx := X.1
  have hb := X.2.1
  have hml := X.2.2.1
  have hown := X.2.2.2.1
  have hts := X.2.2.2.2.1
  have hF := X.2.2.2.2.2.2.2.2.1
  intro x6 m H locs ls h hP hS hl
  rewrite [fX11_act_145] at h
  refine lv_aload_n hx hb dX11_act_145 rfl (lv_at hl 0 rfl) ?_
  refine r_get kc_11 11 X hP (by decide) (L_bt _) (by decide) rfl wt_2_106 dX11_act_146 ?_
  refine r_get kc_3 9 X hP (by decide) (L_host _) (by decide) rfl wt_2_65 dX11_act_149 ?_
  refine lv_if_eq (tgt := 160) hx hb dX11_act_152 (by decide) (fun c_24 => ?_) (fun c_24 => ?_)
  · have h := ifp c_24 h
    refine lv_iload hx hb dX11_act_160 (lv_at hl 1 rfl) ?_
    exact r_iret X hP hS dX11_act_162 h
  · have h := ifn c_24 h
    refine lv_bipush (v := (-15)) hx hb dX11_act_155 (by decide) ?_
    refine lv_goto (tgt := 162) hx hb dX11_act_157 (by decide) ?_
    exact r_iret X hP hS dX11_act_162 h

def fX11_act (a1 : Int32) (a2 : Int32) (a3 : Int32) (m : Mm) : Option (Int32 × Mm) := lt (up m 52 11 0) fun m_1 => bd (fX11_isShelf a1 m_1) fun r_3 m_4 => (if r_3 = 0 then some (0, m_4) else (if a2 < 0 then some (0, m_4) else (if (3 : Int32) < a2 then some (0, m_4) else bd (fX11_holdsSet a1 m_4) fun r_9 m_10 => (if r_9 = 0 then some (0, m_10) else gx a1 4 (lt (m_10 61 (ix a1)) fun x4_14 => bd (fX3_hold 0 x4_14 m_10) fun r_16 m_17 => gn r_16 6 ((if a2 = 0 then bd (v_lifts r_16 a3 m_17) fun r_21 m_22 => (fX11_act_145  r_21 m_22) else (if a2 = 1 then bd (v_groans r_16 a3 m_17) fun r_26 m_27 => (fX11_act_145  r_26 m_27) else (if a2 = 2 then bd (v_parts r_16 a3 m_17) fun r_30 m_31 => (fX11_act_145  r_30 m_31) else bd (v_wipes r_16 a3 m_17) fun r_33 m_34 => (fX11_act_145  r_33 m_34))))))))))
set_option maxHeartbeats 4000000 in
set_option maxRecDepth 100000 in
theorem tX11_act {l : Launch} {D : va_G} {cA : Nat → ClassId} {A : Nat → Nat} (hI : InjA cN A) {a1 : Int32} {a2 : Int32} {a3 : Int32} {m m' : Mm} {r : Int32} (h : fX11_act a1 a2 a3 m = some (r, m')) : Met0 l yX11_act cX11_act 7 (some .int) { frames := 7, cells := 0, slots := 0, locals := 153 } cLay cN D cA A [.ref (A 0), .int a1, .int a2, .int a3] m (some (.int r)) m' := by
  refine met0_of (by decide) (Nat.le_of_ble_eq_true rfl) hI ?_
  intro p e s m0 below meth c ls X hinit hP hS hl
  generalize ([.ref (A 0), .int a1, .int a2, .int a3] : List Value).toArray = args at X ⊢
  have hl : lv_has ls 7 [(0, .ref (A 0)), (1, .int a1), (2, .int a2), (3, .int a3)] := hl
  have X : CX cLay cN D cA A p s m0 args meth c "BenchTowels" cX11_act 7 (some .int) := X
  have hx := X.1
  have hb := X.2.1
  have hml := X.2.2.1
  have hown := X.2.2.2.1
  have hts := X.2.2.2.2.1
  have hF := X.2.2.2.2.2.2.2.2.1
  rewrite [fX11_act] at h
  refine lv_aload_n hx hb dX11_act_0 rfl (lv_at hl 0 rfl) ?_
  refine r_get kc_11 11 X hP (by decide) (L_bt _) (by decide) rfl wt_2_106 dX11_act_1 ?_
  refine lv_iconst (v := 0) hx hb dX11_act_4 (by decide) ?_
  obtain ⟨m_1, em_2, h⟩ := lt_some h
  refine r_put kc_3 11 X hP hS (by decide) (L_host _) (L_host _) (by decide) wt_2_69 rfl (by decide +kernel) (Nat.le_of_ble_eq_true rfl) dX11_act_5 em_2 (fun H locs hP hS => ?_)
  refine lv_iload_n hx hb dX11_act_8 rfl (lv_at hl 1 rfl) ?_
  obtain ⟨r_3, m_4, hc_5, h⟩ := bd_some h
  refine c_S (rest := []) X hP hS (tX11_isShelf hI  hc_5) wt_5_30 wt_5_31 wt_1_1 wt_5_32 hy_X11_isShelf ⟨rfl, rfl⟩ ⟨Nat.le_of_ble_eq_true rfl, Nat.le_of_ble_eq_true rfl⟩ rfl hl.1 rfl (Nat.le_of_ble_eq_true rfl) dX11_act_9 rfl (fun H locs hP hS => ?_)
  refine lv_if_eq (tgt := 32) hx hb dX11_act_12 (by decide) (fun c_6 => ?_) (fun c_6 => ?_)
  · have h := ifp c_6 h
    refine lv_iconst (v := 0) hx hb dX11_act_32 (by decide) ?_
    exact r_iret X hP hS dX11_act_33 h
  · have h := ifn c_6 h
    refine lv_iload_n hx hb dX11_act_15 rfl (lv_at hl 2 rfl) ?_
    refine lv_if_lt (tgt := 32) hx hb dX11_act_16 (by decide) (fun c_7 => ?_) (fun c_7 => ?_)
    · have h := ifp c_7 h
      refine lv_iconst (v := 0) hx hb dX11_act_32 (by decide) ?_
      exact r_iret X hP hS dX11_act_33 h
    · have h := ifn c_7 h
      refine lv_iload_n hx hb dX11_act_19 rfl (lv_at hl 2 rfl) ?_
      refine lv_iconst (v := 3) hx hb dX11_act_20 (by decide) ?_
      refine lv_icmp_gt (tgt := 32) hx hb dX11_act_21 (by decide) (fun c_8 => ?_) (fun c_8 => ?_)
      · have h := ifp c_8 h
        refine lv_iconst (v := 0) hx hb dX11_act_32 (by decide) ?_
        exact r_iret X hP hS dX11_act_33 h
      · have h := ifn c_8 h
        refine lv_aload_n hx hb dX11_act_24 rfl (lv_at hl 0 rfl) ?_
        refine lv_iload_n hx hb dX11_act_25 rfl (lv_at hl 1 rfl) ?_
        obtain ⟨r_9, m_10, hc_11, h⟩ := bd_some h
        refine c_V (rest := []) X hP hS (tX11_holdsSet hI  hc_11) (by decide) (L_bt _) rfl wt_5_45 wt_5_47 ws_2_7 wt_1_1 wt_5_48 ⟨rfl, hy_X11_holdsSet⟩ ⟨rfl, rfl⟩ ⟨Nat.le_of_ble_eq_true rfl, Nat.le_of_ble_eq_true rfl⟩ rfl hl.1 rfl (Nat.le_of_ble_eq_true rfl) dX11_act_26 rfl (fun H locs hP hS => ?_)
        refine lv_if_ne (tgt := 34) hx hb dX11_act_29 (by decide) (fun c_12 => ?_) (fun c_12 => ?_)
        · have h := ifn c_12 h
          refine lv_aload_n hx hb dX11_act_34 rfl (lv_at hl 0 rfl) ?_
          refine r_get kc_11 11 X hP (by decide) (L_bt _) (by decide) rfl wt_2_106 dX11_act_35 ?_
          refine r_get kc_3 5 X hP (by decide) (L_host _) (by decide) rfl wt_2_54 dX11_act_38 ?_
          refine lv_iload_n hx hb dX11_act_41 rfl (lv_at hl 1 rfl) ?_
          obtain ⟨hin_13, h⟩ := gx_some h
          refine r_iald X hP (by decide) (La_61 _) hin_13 rfl dX11_act_42 ?_
          obtain ⟨x4_14, ex_15, h⟩ := lt_some h
          refine lv_ren ex_15 ?_
          refine lv_istore (lv' := [(4, .int x4_14), (0, .ref (A 0)), (1, .int a1), (2, .int a2), (3, .int a3)]) hx hb dX11_act_43 hl (by decide) rfl (fun ls hl => ?_)
          refine lv_aload_n hx hb dX11_act_45 rfl (lv_at hl 1 rfl) ?_
          refine r_get kc_11 11 X hP (by decide) (L_bt _) (by decide) rfl wt_2_106 dX11_act_46 ?_
          refine lv_iload hx hb dX11_act_49 (lv_at hl 0 rfl) ?_
          refine lv_aload_n hx hb dX11_act_51 rfl (lv_at hl 1 rfl) ?_
          refine r_get kc_11 7 X hP (by decide) (L_bt _) (by decide) rfl wt_2_102 dX11_act_52 ?_
          obtain ⟨r_16, m_17, hc_18, h⟩ := bd_some h
          obtain ⟨hk_19, h⟩ := gn_some h
          refine c_V (rest := []) X hP hS (tX3_hold hI (by decide) hc_18) (by decide) (L_host _) rfl wt_5_54 wt_5_55 wt_5_56 wt_1_12 wt_5_57 ⟨rfl, hy_X3_hold⟩ ⟨rfl, rfl⟩ ⟨Nat.le_of_ble_eq_true rfl, Nat.le_of_ble_eq_true rfl⟩ rfl hl.1 rfl (Nat.le_of_ble_eq_true rfl) dX11_act_55 rfl (fun H locs hP hS => ?_)
          refine lv_astore (lv' := [(5, .ref (A (kp r_16))), (4, .int x4_14), (0, .ref (A 0)), (1, .int a1), (2, .int a2), (3, .int a3)]) hx hb dX11_act_58 hl (by decide) rfl (fun ls hl => ?_)
          refine lv_iload_n hx hb dX11_act_60 rfl (lv_at hl 4 rfl) ?_
          by_cases c_20 : a2 = 0
          · have h := ifp c_20 h
            refine lv_ren c_20.symm ?_
            refine lv_tableIn (tgt := 88) hx hb dX11_act_61 (by decide) (by decide) rfl (by decide) ?_
            refine lv_aload hx hb dX11_act_88 (lv_at hl 0 rfl) ?_
            refine lv_aload_n hx hb dX11_act_90 rfl (lv_at hl 2 rfl) ?_
            refine r_get kc_11 11 X hP (by decide) (L_bt _) (by decide) rfl wt_2_106 dX11_act_91 ?_
            refine lv_iload_n hx hb dX11_act_94 rfl (lv_at hl 5 rfl) ?_
            obtain ⟨r_21, m_22, hc_23, h⟩ := bd_some h
            refine vc_11_337 (rest := []) X hP hS hI hk_19 hc_23 ⟨Nat.le_of_ble_eq_true rfl, Nat.le_of_ble_eq_true rfl⟩ hl.1 (Nat.le_of_ble_eq_true rfl) dX11_act_95 rfl (fun H locs hP hS => ?_)
            refine lv_istore (lv' := [(6, .int r_21), (5, .ref (A (kp r_16))), (4, .int x4_14), (0, .ref (A 0)), (1, .int a1), (2, .int a2), (3, .int a3)]) hx hb dX11_act_98 hl (by decide) rfl (fun ls hl => ?_)
            refine lv_goto (tgt := 145) hx hb dX11_act_100 (by decide) ?_
            exact tX11_act_145 hI    X r_21 m_22 _ _ _  h hP hS (lv_sub hl [3, 0] rfl)
          have h := ifn c_20 h
          by_cases c_25 : a2 = 1
          · have h := ifp c_25 h
            refine lv_ren c_25.symm ?_
            refine lv_tableIn (tgt := 103) hx hb dX11_act_61 (by decide) (by decide) rfl (by decide) ?_
            refine lv_aload hx hb dX11_act_103 (lv_at hl 0 rfl) ?_
            refine lv_aload_n hx hb dX11_act_105 rfl (lv_at hl 2 rfl) ?_
            refine r_get kc_11 11 X hP (by decide) (L_bt _) (by decide) rfl wt_2_106 dX11_act_106 ?_
            refine lv_iload_n hx hb dX11_act_109 rfl (lv_at hl 5 rfl) ?_
            obtain ⟨r_26, m_27, hc_28, h⟩ := bd_some h
            refine vc_11_341 (rest := []) X hP hS hI hk_19 hc_28 ⟨Nat.le_of_ble_eq_true rfl, Nat.le_of_ble_eq_true rfl⟩ hl.1 (Nat.le_of_ble_eq_true rfl) dX11_act_110 rfl (fun H locs hP hS => ?_)
            refine lv_istore (lv' := [(6, .int r_26), (5, .ref (A (kp r_16))), (4, .int x4_14), (0, .ref (A 0)), (1, .int a1), (2, .int a2), (3, .int a3)]) hx hb dX11_act_113 hl (by decide) rfl (fun ls hl => ?_)
            refine lv_goto (tgt := 145) hx hb dX11_act_115 (by decide) ?_
            exact tX11_act_145 hI    X r_26 m_27 _ _ _  h hP hS (lv_sub hl [3, 0] rfl)
          have h := ifn c_25 h
          by_cases c_29 : a2 = 2
          · have h := ifp c_29 h
            refine lv_ren c_29.symm ?_
            refine lv_tableIn (tgt := 118) hx hb dX11_act_61 (by decide) (by decide) rfl (by decide) ?_
            refine lv_aload hx hb dX11_act_118 (lv_at hl 0 rfl) ?_
            refine lv_aload_n hx hb dX11_act_120 rfl (lv_at hl 2 rfl) ?_
            refine r_get kc_11 11 X hP (by decide) (L_bt _) (by decide) rfl wt_2_106 dX11_act_121 ?_
            refine lv_iload_n hx hb dX11_act_124 rfl (lv_at hl 5 rfl) ?_
            obtain ⟨r_30, m_31, hc_32, h⟩ := bd_some h
            refine vc_11_344 (rest := []) X hP hS hI hk_19 hc_32 ⟨Nat.le_of_ble_eq_true rfl, Nat.le_of_ble_eq_true rfl⟩ hl.1 (Nat.le_of_ble_eq_true rfl) dX11_act_125 rfl (fun H locs hP hS => ?_)
            refine lv_istore (lv' := [(6, .int r_30), (5, .ref (A (kp r_16))), (4, .int x4_14), (0, .ref (A 0)), (1, .int a1), (2, .int a2), (3, .int a3)]) hx hb dX11_act_128 hl (by decide) rfl (fun ls hl => ?_)
            refine lv_goto (tgt := 145) hx hb dX11_act_130 (by decide) ?_
            exact tX11_act_145 hI    X r_30 m_31 _ _ _  h hP hS (lv_sub hl [3, 0] rfl)
          have h := ifn c_29 h
          refine lv_tableOut (tgt := 133) hx hb dX11_act_61 (by have q1000 : a2.toInt ≠ 0 := fun q => c_20 (Int32.toInt_inj.mp (q.trans (by decide)));  have q1001 : a2.toInt ≠ 1 := fun q => c_25 (Int32.toInt_inj.mp (q.trans (by decide)));  have q1002 : a2.toInt ≠ 2 := fun q => c_29 (Int32.toInt_inj.mp (q.trans (by decide)));  omega) (by decide) ?_
          refine lv_aload hx hb dX11_act_133 (lv_at hl 0 rfl) ?_
          refine lv_aload_n hx hb dX11_act_135 rfl (lv_at hl 2 rfl) ?_
          refine r_get kc_11 11 X hP (by decide) (L_bt _) (by decide) rfl wt_2_106 dX11_act_136 ?_
          refine lv_iload_n hx hb dX11_act_139 rfl (lv_at hl 5 rfl) ?_
          obtain ⟨r_33, m_34, hc_35, h⟩ := bd_some h
          refine vc_11_347 (rest := []) X hP hS hI hk_19 hc_35 ⟨Nat.le_of_ble_eq_true rfl, Nat.le_of_ble_eq_true rfl⟩ hl.1 (Nat.le_of_ble_eq_true rfl) dX11_act_140 rfl (fun H locs hP hS => ?_)
          refine lv_istore (lv' := [(6, .int r_33), (5, .ref (A (kp r_16))), (4, .int x4_14), (0, .ref (A 0)), (1, .int a1), (2, .int a2), (3, .int a3)]) hx hb dX11_act_143 hl (by decide) rfl (fun ls hl => ?_)
          exact tX11_act_145 hI    X r_33 m_34 _ _ _  h hP hS (lv_sub hl [3, 0] rfl)
        · have h := ifp c_12 h
          refine lv_iconst (v := 0) hx hb dX11_act_32 (by decide) ?_
          exact r_iret X hP hS dX11_act_33 h

def fX11_trace (a1 : Int32) (m : Mm) : Option (Int32 × Mm) := (if a1 < 0 then some ((-3), m) else (if ((m 52 11) : Int32) ≤ a1 then some ((-3), m) else gx a1 30 (some ((m 63 (ix a1)), m))))
set_option maxHeartbeats 4000000 in
set_option maxRecDepth 100000 in
theorem tX11_trace {l : Launch} {D : va_G} {cA : Nat → ClassId} {A : Nat → Nat} (hI : InjA cN A) {a1 : Int32} {m m' : Mm} {r : Int32} (h : fX11_trace a1 m = some (r, m')) : Met0 l yX11_trace cX11_trace 2 (some .int) { frames := 0, cells := 0, slots := 0, locals := 0 } cLay cN D cA A [.ref (A 0), .int a1] m (some (.int r)) m' := by
  refine met0_of (by decide) (Nat.le_of_ble_eq_true rfl) hI ?_
  intro p e s m0 below meth c ls X hinit hP hS hl
  generalize ([.ref (A 0), .int a1] : List Value).toArray = args at X ⊢
  have hl : lv_has ls 2 [(0, .ref (A 0)), (1, .int a1)] := hl
  have X : CX cLay cN D cA A p s m0 args meth c "BenchTowels" cX11_trace 2 (some .int) := X
  have hx := X.1
  have hb := X.2.1
  have hml := X.2.2.1
  have hown := X.2.2.2.1
  have hts := X.2.2.2.2.1
  have hF := X.2.2.2.2.2.2.2.2.1
  rewrite [fX11_trace] at h
  refine lv_iload_n hx hb dX11_trace_0 rfl (lv_at hl 1 rfl) ?_
  refine lv_if_lt (tgt := 27) hx hb dX11_trace_1 (by decide) (fun c_1 => ?_) (fun c_1 => ?_)
  · have h := ifp c_1 h
    refine lv_bipush (v := (-3)) hx hb dX11_trace_27 (by decide) ?_
    exact r_iret X hP hS dX11_trace_29 h
  · have h := ifn c_1 h
    refine lv_iload_n hx hb dX11_trace_4 rfl (lv_at hl 1 rfl) ?_
    refine lv_aload_n hx hb dX11_trace_5 rfl (lv_at hl 0 rfl) ?_
    refine r_get kc_11 11 X hP (by decide) (L_bt _) (by decide) rfl wt_2_106 dX11_trace_6 ?_
    refine r_get kc_3 11 X hP (by decide) (L_host _) (by decide) rfl wt_2_69 dX11_trace_9 ?_
    refine lv_icmp_ge (tgt := 27) hx hb dX11_trace_12 (by decide) (fun c_2 => ?_) (fun c_2 => ?_)
    · have h := ifp c_2 h
      refine lv_bipush (v := (-3)) hx hb dX11_trace_27 (by decide) ?_
      exact r_iret X hP hS dX11_trace_29 h
    · have h := ifn c_2 h
      refine lv_aload_n hx hb dX11_trace_15 rfl (lv_at hl 0 rfl) ?_
      refine r_get kc_11 11 X hP (by decide) (L_bt _) (by decide) rfl wt_2_106 dX11_trace_16 ?_
      refine r_get kc_3 10 X hP (by decide) (L_host _) (by decide) rfl wt_2_67 dX11_trace_19 ?_
      refine lv_iload_n hx hb dX11_trace_22 rfl (lv_at hl 1 rfl) ?_
      obtain ⟨hin_3, h⟩ := gx_some h
      refine r_iald X hP (by decide) (La_63 _) hin_3 rfl dX11_trace_23 ?_
      refine lv_goto (tgt := 29) hx hb dX11_trace_24 (by decide) ?_
      exact r_iret X hP hS dX11_trace_29 h

def fX11_many (a1 : Int32) (m : Mm) : Option (Int32 × Mm) := (if a1 = 0 then some ((m (gp 0 0) 3), m) else (if a1 = 1 then some ((m (rp 0 0) 0), m) else (if a1 = 2 then bd (fX1_spent 0 m) fun r_4 m_5 => bd (fJ6_bitCount_0f7a4 r_4 m_5) fun r_7 m_8 => some (r_7, m_8) else (if a1 = 3 then some ((m (mp 0 0) 3), m) else (if a1 = 4 then some ((m 0 13), m) else (if a1 = 5 then some ((m 0 1), m) else (if a1 = 6 then some ((m 52 11), m) else some ((-1), m))))))))
set_option maxHeartbeats 4000000 in
set_option maxRecDepth 100000 in
theorem tX11_many {l : Launch} {D : va_G} {cA : Nat → ClassId} {A : Nat → Nat} (hI : InjA cN A) {a1 : Int32} {m m' : Mm} {r : Int32} (h : fX11_many a1 m = some (r, m')) : Met0 l yX11_many cX11_many 2 (some .int) { frames := 1, cells := 0, slots := 0, locals := 22 } cLay cN D cA A [.ref (A 0), .int a1] m (some (.int r)) m' := by
  refine met0_of (by decide) (Nat.le_of_ble_eq_true rfl) hI ?_
  intro p e s m0 below meth c ls X hinit hP hS hl
  generalize ([.ref (A 0), .int a1] : List Value).toArray = args at X ⊢
  have hl : lv_has ls 2 [(0, .ref (A 0)), (1, .int a1)] := hl
  have X : CX cLay cN D cA A p s m0 args meth c "BenchTowels" cX11_many 2 (some .int) := X
  have hx := X.1
  have hb := X.2.1
  have hml := X.2.2.1
  have hown := X.2.2.2.1
  have hts := X.2.2.2.2.1
  have hF := X.2.2.2.2.2.2.2.2.1
  rewrite [fX11_many] at h
  refine lv_iload_n hx hb dX11_many_0 rfl (lv_at hl 1 rfl) ?_
  by_cases c_1 : a1 = 0
  · have h := ifp c_1 h
    refine lv_ren c_1.symm ?_
    refine lv_tableIn (tgt := 44) hx hb dX11_many_1 (by decide) (by decide) rfl (by decide) ?_
    refine lv_aload_n hx hb dX11_many_44 rfl (lv_at hl 0 rfl) ?_
    refine r_get kc_11 7 X hP (by decide) (L_bt _) (by decide) rfl wt_2_102 dX11_many_45 ?_
    refine r_get kc_1 3 X hP (lt_g (by decide) (by decide)) (L_gym (by decide) _) (by decide) rfl wt_1_176 dX11_many_48 ?_
    exact r_iret X hP hS dX11_many_51 h
  have h := ifn c_1 h
  by_cases c_2 : a1 = 1
  · have h := ifp c_2 h
    refine lv_ren c_2.symm ?_
    refine lv_tableIn (tgt := 52) hx hb dX11_many_1 (by decide) (by decide) rfl (by decide) ?_
    refine lv_aload_n hx hb dX11_many_52 rfl (lv_at hl 0 rfl) ?_
    refine r_get kc_11 2 X hP (by decide) (L_bt _) (by decide) rfl wt_2_97 dX11_many_53 ?_
    refine r_get kc_8 0 X hP (lt_r (by decide) (by decide)) (L_rules (by decide) _) (by decide) rfl wt_1_36 dX11_many_56 ?_
    exact r_iret X hP hS dX11_many_59 h
  have h := ifn c_2 h
  by_cases c_3 : a1 = 2
  · have h := ifp c_3 h
    refine lv_ren c_3.symm ?_
    refine lv_tableIn (tgt := 60) hx hb dX11_many_1 (by decide) (by decide) rfl (by decide) ?_
    refine lv_aload_n hx hb dX11_many_60 rfl (lv_at hl 0 rfl) ?_
    refine r_get kc_11 7 X hP (by decide) (L_bt _) (by decide) rfl wt_2_102 dX11_many_61 ?_
    obtain ⟨r_4, m_5, hc_6, h⟩ := bd_some h
    refine c_V (rest := []) X hP hS (tX1_spent hI (by decide) hc_6) (lt_g (by decide) (by decide)) (L_gym (by decide) _) rfl wt_3_77 wt_3_78 wt_3_79 wt_1_10 wt_3_80 ⟨rfl, hy_X1_spent⟩ ⟨rfl, rfl⟩ ⟨Nat.le_of_ble_eq_true rfl, Nat.le_of_ble_eq_true rfl⟩ rfl hl.1 rfl (Nat.le_of_ble_eq_true rfl) dX11_many_64 rfl (fun H locs hP hS => ?_)
    obtain ⟨r_7, m_8, hc_9, h⟩ := bd_some h
    refine c_S (rest := []) X hP hS (tJ6_bitCount_0f7a4 hI  hc_9) wt_5_152 wt_4_59 wt_1_20 wt_4_60 hy_J6_bitCount_0f7a4 ⟨rfl, rfl⟩ ⟨Nat.le_of_ble_eq_true rfl, Nat.le_of_ble_eq_true rfl⟩ rfl hl.1 rfl (Nat.le_of_ble_eq_true rfl) dX11_many_67 rfl (fun H locs hP hS => ?_)
    exact r_iret X hP hS dX11_many_70 h
  have h := ifn c_3 h
  by_cases c_10 : a1 = 3
  · have h := ifp c_10 h
    refine lv_ren c_10.symm ?_
    refine lv_tableIn (tgt := 71) hx hb dX11_many_1 (by decide) (by decide) rfl (by decide) ?_
    refine lv_aload_n hx hb dX11_many_71 rfl (lv_at hl 0 rfl) ?_
    refine r_get kc_11 5 X hP (by decide) (L_bt _) (by decide) rfl wt_2_100 dX11_many_72 ?_
    refine r_get kc_4 3 X hP (lt_m (by decide) (by decide)) (L_men (by decide) _) (by decide) rfl wt_1_88 dX11_many_75 ?_
    exact r_iret X hP hS dX11_many_78 h
  have h := ifn c_10 h
  by_cases c_11 : a1 = 4
  · have h := ifp c_11 h
    refine lv_ren c_11.symm ?_
    refine lv_tableIn (tgt := 79) hx hb dX11_many_1 (by decide) (by decide) rfl (by decide) ?_
    refine lv_aload_n hx hb dX11_many_79 rfl (lv_at hl 0 rfl) ?_
    refine r_get kc_11 13 X hP (by decide) (L_bt _) (by decide) rfl wt_2_108 dX11_many_80 ?_
    exact r_iret X hP hS dX11_many_83 h
  have h := ifn c_11 h
  by_cases c_12 : a1 = 5
  · have h := ifp c_12 h
    refine lv_ren c_12.symm ?_
    refine lv_tableIn (tgt := 84) hx hb dX11_many_1 (by decide) (by decide) rfl (by decide) ?_
    refine lv_aload_n hx hb dX11_many_84 rfl (lv_at hl 0 rfl) ?_
    refine r_get kc_11 1 X hP (by decide) (L_bt _) (by decide) rfl wt_2_96 dX11_many_85 ?_
    exact r_iret X hP hS dX11_many_88 h
  have h := ifn c_12 h
  by_cases c_13 : a1 = 6
  · have h := ifp c_13 h
    refine lv_ren c_13.symm ?_
    refine lv_tableIn (tgt := 89) hx hb dX11_many_1 (by decide) (by decide) rfl (by decide) ?_
    refine lv_aload_n hx hb dX11_many_89 rfl (lv_at hl 0 rfl) ?_
    refine r_get kc_11 11 X hP (by decide) (L_bt _) (by decide) rfl wt_2_106 dX11_many_90 ?_
    refine r_get kc_3 11 X hP (by decide) (L_host _) (by decide) rfl wt_2_69 dX11_many_93 ?_
    exact r_iret X hP hS dX11_many_96 h
  have h := ifn c_13 h
  refine lv_tableOut (tgt := 97) hx hb dX11_many_1 (by have q1000 : a1.toInt ≠ 0 := fun q => c_1 (Int32.toInt_inj.mp (q.trans (by decide)));  have q1001 : a1.toInt ≠ 1 := fun q => c_2 (Int32.toInt_inj.mp (q.trans (by decide)));  have q1002 : a1.toInt ≠ 2 := fun q => c_3 (Int32.toInt_inj.mp (q.trans (by decide)));  have q1003 : a1.toInt ≠ 3 := fun q => c_10 (Int32.toInt_inj.mp (q.trans (by decide)));  have q1004 : a1.toInt ≠ 4 := fun q => c_11 (Int32.toInt_inj.mp (q.trans (by decide)));  have q1005 : a1.toInt ≠ 5 := fun q => c_12 (Int32.toInt_inj.mp (q.trans (by decide)));  have q1006 : a1.toInt ≠ 6 := fun q => c_13 (Int32.toInt_inj.mp (q.trans (by decide)));  omega) (by decide) ?_
  refine lv_iconst (v := (-1)) hx hb dX11_many_97 (by decide) ?_
  exact r_iret X hP hS dX11_many_98 h

def fX11_keep  (m : Mm) : Option (Int32 × Mm) := bd (fX1_copy 1 0 m) fun r_1 m_2 => bd (fX8_copy 2 0 m_2) fun r_4 m_5 => bd (fX4_copy 1 0 m_5) fun r_7 m_8 => lt (up m_8 0 14 1) fun m_10 => some (1, m_10)
set_option maxHeartbeats 4000000 in
set_option maxRecDepth 100000 in
theorem tX11_keep {l : Launch} {D : va_G} {cA : Nat → ClassId} {A : Nat → Nat} (hI : InjA cN A) {m m' : Mm} {r : Int32} (h : fX11_keep m = some (r, m')) : Met0 l yX11_keep cX11_keep 1 (some .int) { frames := 3, cells := 0, slots := 0, locals := 103 } cLay cN D cA A [.ref (A 0)] m (some (.int r)) m' := by
  refine met0_of (by decide) (Nat.le_of_ble_eq_true rfl) hI ?_
  intro p e s m0 below meth c ls X hinit hP hS hl
  generalize ([.ref (A 0)] : List Value).toArray = args at X ⊢
  have hl : lv_has ls 1 [(0, .ref (A 0))] := hl
  have X : CX cLay cN D cA A p s m0 args meth c "BenchTowels" cX11_keep 1 (some .int) := X
  have hx := X.1
  have hb := X.2.1
  have hml := X.2.2.1
  have hown := X.2.2.2.1
  have hts := X.2.2.2.2.1
  have hF := X.2.2.2.2.2.2.2.2.1
  rewrite [fX11_keep] at h
  refine lv_aload_n hx hb dX11_keep_0 rfl (lv_at hl 0 rfl) ?_
  refine r_get kc_11 8 X hP (by decide) (L_bt _) (by decide) rfl wt_2_103 dX11_keep_1 ?_
  refine lv_aload_n hx hb dX11_keep_4 rfl (lv_at hl 0 rfl) ?_
  refine r_get kc_11 7 X hP (by decide) (L_bt _) (by decide) rfl wt_2_102 dX11_keep_5 ?_
  obtain ⟨r_1, m_2, hc_3, h⟩ := bd_some h
  refine c_V (rest := []) X hP hS (tX1_copy hI (by decide) (by decide) hc_3) (lt_g (by decide) (by decide)) (L_gym (by decide) _) rfl wt_4_2 wt_4_3 wt_4_4 wt_1_10 wt_4_5 ⟨rfl, hy_X1_copy⟩ ⟨rfl, rfl⟩ ⟨Nat.le_of_ble_eq_true rfl, Nat.le_of_ble_eq_true rfl⟩ rfl hl.1 rfl (Nat.le_of_ble_eq_true rfl) dX11_keep_8 rfl (fun H locs hP hS => ?_)
  refine lv_aload_n hx hb dX11_keep_11 rfl (lv_at hl 0 rfl) ?_
  refine r_get kc_11 4 X hP (by decide) (L_bt _) (by decide) rfl wt_2_99 dX11_keep_12 ?_
  refine lv_aload_n hx hb dX11_keep_15 rfl (lv_at hl 0 rfl) ?_
  refine r_get kc_11 2 X hP (by decide) (L_bt _) (by decide) rfl wt_2_97 dX11_keep_16 ?_
  obtain ⟨r_4, m_5, hc_6, h⟩ := bd_some h
  refine c_V (rest := []) X hP hS (tX8_copy hI (by decide) (by decide) hc_6) (lt_r (by decide) (by decide)) (L_rules (by decide) _) rfl wt_3_202 wt_3_203 wt_3_204 wt_1_2 wt_3_205 ⟨rfl, hy_X8_copy⟩ ⟨rfl, rfl⟩ ⟨Nat.le_of_ble_eq_true rfl, Nat.le_of_ble_eq_true rfl⟩ rfl hl.1 rfl (Nat.le_of_ble_eq_true rfl) dX11_keep_19 rfl (fun H locs hP hS => ?_)
  refine lv_aload_n hx hb dX11_keep_22 rfl (lv_at hl 0 rfl) ?_
  refine r_get kc_11 6 X hP (by decide) (L_bt _) (by decide) rfl wt_2_101 dX11_keep_23 ?_
  refine lv_aload_n hx hb dX11_keep_26 rfl (lv_at hl 0 rfl) ?_
  refine r_get kc_11 5 X hP (by decide) (L_bt _) (by decide) rfl wt_2_100 dX11_keep_27 ?_
  obtain ⟨r_7, m_8, hc_9, h⟩ := bd_some h
  refine c_V (rest := []) X hP hS (tX4_copy hI (by decide) (by decide) hc_9) (lt_m (by decide) (by decide)) (L_men (by decide) _) rfl wt_5_157 wt_5_158 wt_5_159 wt_1_3 wt_5_160 ⟨rfl, hy_X4_copy⟩ ⟨rfl, rfl⟩ ⟨Nat.le_of_ble_eq_true rfl, Nat.le_of_ble_eq_true rfl⟩ rfl hl.1 rfl (Nat.le_of_ble_eq_true rfl) dX11_keep_30 rfl (fun H locs hP hS => ?_)
  refine lv_aload_n hx hb dX11_keep_33 rfl (lv_at hl 0 rfl) ?_
  refine lv_iconst (v := 1) hx hb dX11_keep_34 (by decide) ?_
  obtain ⟨m_10, em_11, h⟩ := lt_some h
  refine r_putz kc_11 14 X (Or.inr rfl) hP hS (by decide) (L_bt _) (L_bt _) (by decide) wt_2_109 rfl (by decide +kernel) (Nat.le_of_ble_eq_true rfl) dX11_keep_35 em_11 (fun H locs hP hS => ?_)
  refine lv_iconst (v := 1) hx hb dX11_keep_38 (by decide) ?_
  exact r_iret X hP hS dX11_keep_39 h

def fX11_again  (m : Mm) : Option (Int32 × Mm) := (if (m 0 14) = 0 then some ((-3), m) else bd (fX1_copy 0 1 m) fun r_2 m_3 => bd (fX8_copy 0 2 m_3) fun r_5 m_6 => bd (fX4_copy 0 1 m_6) fun r_8 m_9 => some ((m_9 (gp 0 0) 3), m_9))
set_option maxHeartbeats 4000000 in
set_option maxRecDepth 100000 in
theorem tX11_again {l : Launch} {D : va_G} {cA : Nat → ClassId} {A : Nat → Nat} (hI : InjA cN A) {m m' : Mm} {r : Int32} (h : fX11_again m = some (r, m')) : Met0 l yX11_again cX11_again 1 (some .int) { frames := 3, cells := 0, slots := 0, locals := 103 } cLay cN D cA A [.ref (A 0)] m (some (.int r)) m' := by
  refine met0_of (by decide) (Nat.le_of_ble_eq_true rfl) hI ?_
  intro p e s m0 below meth c ls X hinit hP hS hl
  generalize ([.ref (A 0)] : List Value).toArray = args at X ⊢
  have hl : lv_has ls 1 [(0, .ref (A 0))] := hl
  have X : CX cLay cN D cA A p s m0 args meth c "BenchTowels" cX11_again 1 (some .int) := X
  have hx := X.1
  have hb := X.2.1
  have hml := X.2.2.1
  have hown := X.2.2.2.1
  have hts := X.2.2.2.2.1
  have hF := X.2.2.2.2.2.2.2.2.1
  rewrite [fX11_again] at h
  refine lv_aload_n hx hb dX11_again_0 rfl (lv_at hl 0 rfl) ?_
  refine r_get kc_11 14 X hP (by decide) (L_bt _) (by decide) rfl wt_2_109 dX11_again_1 ?_
  refine lv_if_ne (tgt := 10) hx hb dX11_again_4 (by decide) (fun c_1 => ?_) (fun c_1 => ?_)
  · have h := ifn c_1 h
    refine lv_aload_n hx hb dX11_again_10 rfl (lv_at hl 0 rfl) ?_
    refine r_get kc_11 7 X hP (by decide) (L_bt _) (by decide) rfl wt_2_102 dX11_again_11 ?_
    refine lv_aload_n hx hb dX11_again_14 rfl (lv_at hl 0 rfl) ?_
    refine r_get kc_11 8 X hP (by decide) (L_bt _) (by decide) rfl wt_2_103 dX11_again_15 ?_
    obtain ⟨r_2, m_3, hc_4, h⟩ := bd_some h
    refine c_V (rest := []) X hP hS (tX1_copy hI (by decide) (by decide) hc_4) (lt_g (by decide) (by decide)) (L_gym (by decide) _) rfl wt_4_2 wt_4_3 wt_4_4 wt_1_10 wt_4_5 ⟨rfl, hy_X1_copy⟩ ⟨rfl, rfl⟩ ⟨Nat.le_of_ble_eq_true rfl, Nat.le_of_ble_eq_true rfl⟩ rfl hl.1 rfl (Nat.le_of_ble_eq_true rfl) dX11_again_18 rfl (fun H locs hP hS => ?_)
    refine lv_aload_n hx hb dX11_again_21 rfl (lv_at hl 0 rfl) ?_
    refine r_get kc_11 2 X hP (by decide) (L_bt _) (by decide) rfl wt_2_97 dX11_again_22 ?_
    refine lv_aload_n hx hb dX11_again_25 rfl (lv_at hl 0 rfl) ?_
    refine r_get kc_11 4 X hP (by decide) (L_bt _) (by decide) rfl wt_2_99 dX11_again_26 ?_
    obtain ⟨r_5, m_6, hc_7, h⟩ := bd_some h
    refine c_V (rest := []) X hP hS (tX8_copy hI (by decide) (by decide) hc_7) (lt_r (by decide) (by decide)) (L_rules (by decide) _) rfl wt_3_202 wt_3_203 wt_3_204 wt_1_2 wt_3_205 ⟨rfl, hy_X8_copy⟩ ⟨rfl, rfl⟩ ⟨Nat.le_of_ble_eq_true rfl, Nat.le_of_ble_eq_true rfl⟩ rfl hl.1 rfl (Nat.le_of_ble_eq_true rfl) dX11_again_29 rfl (fun H locs hP hS => ?_)
    refine lv_aload_n hx hb dX11_again_32 rfl (lv_at hl 0 rfl) ?_
    refine r_get kc_11 5 X hP (by decide) (L_bt _) (by decide) rfl wt_2_100 dX11_again_33 ?_
    refine lv_aload_n hx hb dX11_again_36 rfl (lv_at hl 0 rfl) ?_
    refine r_get kc_11 6 X hP (by decide) (L_bt _) (by decide) rfl wt_2_101 dX11_again_37 ?_
    obtain ⟨r_8, m_9, hc_10, h⟩ := bd_some h
    refine c_V (rest := []) X hP hS (tX4_copy hI (by decide) (by decide) hc_10) (lt_m (by decide) (by decide)) (L_men (by decide) _) rfl wt_5_157 wt_5_158 wt_5_159 wt_1_3 wt_5_160 ⟨rfl, hy_X4_copy⟩ ⟨rfl, rfl⟩ ⟨Nat.le_of_ble_eq_true rfl, Nat.le_of_ble_eq_true rfl⟩ rfl hl.1 rfl (Nat.le_of_ble_eq_true rfl) dX11_again_40 rfl (fun H locs hP hS => ?_)
    refine lv_aload_n hx hb dX11_again_43 rfl (lv_at hl 0 rfl) ?_
    refine r_get kc_11 7 X hP (by decide) (L_bt _) (by decide) rfl wt_2_102 dX11_again_44 ?_
    refine r_get kc_1 3 X hP (lt_g (by decide) (by decide)) (L_gym (by decide) _) (by decide) rfl wt_1_176 dX11_again_47 ?_
    exact r_iret X hP hS dX11_again_50 h
  · have h := ifp c_1 h
    refine lv_bipush (v := (-3)) hx hb dX11_again_7 (by decide) ?_
    exact r_iret X hP hS dX11_again_9 h

end
