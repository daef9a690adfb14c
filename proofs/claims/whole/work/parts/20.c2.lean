-- the landed class's methods walked, by program (wip/whole/gen)
section
variable {p : Program} {l : Launch} {e : Env} {s : State} {m0 : MethodId} {args : Array Value} {below : List Frame} {meth : Method} {c : Code} {D : va_G} {cA : Nat → ClassId} {A : Nat → Nat}
def fX1_openUntil_22 (K2 : Int32 → Int32 → Mm → Option (Int32 × Mm)) (i : Nat) : Nat → Int32 → Int32 → Int32 → Mm → Option (Int32 × Mm)
  | 0, _, _, _, _ => none
  | n + 1, x1, x2, x3, m => (if (x1 : Int32) < x3 then lt ((x2 : Int32) + 1) fun x2_8 => (K2 x1 x2_8 m) else bd (fX1_mayIn i x2 x3 m) fun r_10 m_11 => (if r_10 = 0 then lt ((x3 : Int32) + 1) fun x3_14 => (fX1_openUntil_22 K2 i n x1 x2 x3_14 m_11) else gx x2 6 (lt (up m_11 (gp i 12) (ix x2) ((m_11 (gp i 12) (ix x2)) ||| ((1 : Int32) <<< (x3 &&& 31)))) fun m_17 => lt ((x3 : Int32) + 1) fun x3_19 => (fX1_openUntil_22 K2 i n x1 x2 x3_19 m_17))))
set_option maxHeartbeats 4000000 in
set_option maxRecDepth 100000 in
theorem tX1_openUntil_22 (hI : InjA cN A) {i : Nat} (hi : i < 8) {r : Int32} {m' : Mm} {K2 : Int32 → Int32 → Mm → Option (Int32 × Mm)} (hK2 : ∀ (x1 : Int32) (x2 : Int32) (m : Mm) (H : Heap) (locs : List Loc) (ls : Array Slot), K2 x1 x2 m = some (r, m') → va_P D vwCl (wsOf cLay cN cA A m) H → va_S (AW cN A) s.heap H locs → lv_has ls 4 [(0, .ref (A (gp i 0))), (1, .int x1), (2, .int x2)] → W p l e { frames := 4, cells := 0, slots := 0, locals := 87 } s m0 args below meth c H locs 0 0 (ZR below args s cLay cN D cA A none m') (F0 m0 2 ls [])) (X : CX cLay cN D cA A p s m0 args meth c "BenchTowels$Gym" cX1_openUntil 4 none) : ∀ (n : Nat) (x1 : Int32) (x2 : Int32) (x3 : Int32) (m : Mm) (H : Heap) (locs : List Loc) (ls : Array Slot), fX1_openUntil_22 K2 i n x1 x2 x3 m = some (r, m') → va_P D vwCl (wsOf cLay cN cA A m) H → va_S (AW cN A) s.heap H locs → lv_has ls 4 [(0, .ref (A (gp i 0))), (1, .int x1), (2, .int x2), (3, .int x3)] → W p l e { frames := 4, cells := 0, slots := 0, locals := 87 } s m0 args below meth c H locs 0 0 (ZR below args s cLay cN D cA A none m') (F0 m0 22 ls []) := by
  have hx := X.1
  have hb := X.2.1
  have hml := X.2.2.1
  have hown := X.2.2.2.1
  have hts := X.2.2.2.2.1
  have hF := X.2.2.2.2.2.2.2.2.1
  intro n
  induction n with
  | zero =>
    intro x1 x2 x3 m H locs ls h hP hS hl
    exact absurd h (by rewrite [fX1_openUntil_22]; exact fun q => by cases q)
  | succ n ih =>
    intro x1 x2 x3 m H locs ls h hP hS hl
    rewrite [fX1_openUntil_22] at h
    refine lv_iload_n hx hb dX1_openUntil_22 rfl (lv_at hl 3 rfl) ?_
    refine lv_iload_n hx hb dX1_openUntil_23 rfl (lv_at hl 1 rfl) ?_
    refine lv_icmp_gt (tgt := 54) hx hb dX1_openUntil_24 (by decide) (fun c_7 => ?_) (fun c_7 => ?_)
    · have h := ifp c_7 h
      obtain ⟨x2_8, ex_9, h⟩ := lt_some h
      refine lv_iinc (v := x2_8) (lv' := [(2, .int x2_8), (0, .ref (A (gp i 0))), (1, .int x1), (3, .int x3)]) hx hb dX1_openUntil_54 hl (k := 2) rfl (by rw [ex_9]; rfl) (by decide) rfl (fun ls hl => ?_)
      refine lv_goto (tgt := 2) hx hb dX1_openUntil_57 (by decide) ?_
      exact hK2 x1 x2_8 m _ _ _  h hP hS (lv_sub hl [1, 2, 0] rfl)
    · have h := ifn c_7 h
      refine lv_aload_n hx hb dX1_openUntil_27 rfl (lv_at hl 0 rfl) ?_
      refine lv_iload_n hx hb dX1_openUntil_28 rfl (lv_at hl 2 rfl) ?_
      refine lv_iload_n hx hb dX1_openUntil_29 rfl (lv_at hl 3 rfl) ?_
      obtain ⟨r_10, m_11, hc_12, h⟩ := bd_some h
      refine c_V (rest := []) X hP hS (tX1_mayIn hI hi hc_12) (lt_g hi (by decide)) (L_gym hi _) rfl wt_3_217 wt_2_165 wt_2_166 wt_1_10 wt_2_167 ⟨rfl, hy_X1_mayIn⟩ ⟨rfl, rfl⟩ ⟨Nat.le_of_ble_eq_true rfl, Nat.le_of_ble_eq_true rfl⟩ rfl hl.1 rfl (Nat.le_of_ble_eq_true rfl) dX1_openUntil_30 rfl (fun H locs hP hS => ?_)
      refine lv_if_eq (tgt := 48) hx hb dX1_openUntil_33 (by decide) (fun c_13 => ?_) (fun c_13 => ?_)
      · have h := ifp c_13 h
        obtain ⟨x3_14, ex_15, h⟩ := lt_some h
        refine lv_iinc (v := x3_14) (lv' := [(3, .int x3_14), (0, .ref (A (gp i 0))), (1, .int x1), (2, .int x2)]) hx hb dX1_openUntil_48 hl (k := 3) rfl (by rw [ex_15]; rfl) (by decide) rfl (fun ls hl => ?_)
        refine lv_goto (tgt := 22) hx hb dX1_openUntil_51 (by decide) ?_
        exact ih x1 x2 x3_14 m_11 _ _ _  h hP hS (lv_sub hl [1, 2, 3, 0] rfl)
      · have h := ifn c_13 h
        refine lv_aload_n hx hb dX1_openUntil_36 rfl (lv_at hl 0 rfl) ?_
        refine r_get kc_1 12 X hP (lt_g hi (by decide)) (L_gym hi _) (by decide) rfl wt_1_196 dX1_openUntil_37 ?_
        refine lv_iload_n hx hb dX1_openUntil_40 rfl (lv_at hl 2 rfl) ?_
        refine lv_dup2_11 hx hb dX1_openUntil_41 rfl rfl ?_
        obtain ⟨hin_16, h⟩ := gx_some h
        refine r_iald X hP (lt_g hi (by decide)) ((La_g_12 hi) _) hin_16 rfl dX1_openUntil_42 ?_
        refine lv_iconst (v := 1) hx hb dX1_openUntil_43 (by decide) ?_
        refine lv_iload_n hx hb dX1_openUntil_44 rfl (lv_at hl 3 rfl) ?_
        refine lv_ishl hx hb dX1_openUntil_45 ?_
        refine lv_ior hx hb dX1_openUntil_46 ?_
        obtain ⟨m_17, em_18, h⟩ := lt_some h
        refine r_iast X hP hS (lt_g hi (by decide)) (La_g_12 hi) hin_16 rfl dX1_openUntil_47 em_18 (fun H locs hP hS => ?_)
        obtain ⟨x3_19, ex_20, h⟩ := lt_some h
        refine lv_iinc (v := x3_19) (lv' := [(3, .int x3_19), (0, .ref (A (gp i 0))), (1, .int x1), (2, .int x2)]) hx hb dX1_openUntil_48 hl (k := 3) rfl (by rw [ex_20]; rfl) (by decide) rfl (fun ls hl => ?_)
        refine lv_goto (tgt := 22) hx hb dX1_openUntil_51 (by decide) ?_
        exact ih x1 x2 x3_19 m_17 _ _ _  h hP hS (lv_sub hl [1, 2, 3, 0] rfl)

def fX1_openUntil_2 (i : Nat) : Nat → Int32 → Int32 → Mm → Option (Int32 × Mm)
  | 0, _, _, _ => none
  | n + 1, x1, x2, m => (if ((m (gp i 0) 3) : Int32) ≤ x2 then some (0, m) else gx x2 6 (lt (up m (gp i 12) (ix x2) 0) fun m_3 => lt (m_3 (gp i 0) 6) fun x3_5 => (fX1_openUntil_22 (fun x1 x2 m => fX1_openUntil_2 i n x1 x2 m) i FL x1 x2 x3_5 m_3)))
set_option maxHeartbeats 4000000 in
set_option maxRecDepth 100000 in
theorem tX1_openUntil_2 (hI : InjA cN A) {i : Nat} (hi : i < 8) {r : Int32} {m' : Mm} (X : CX cLay cN D cA A p s m0 args meth c "BenchTowels$Gym" cX1_openUntil 4 none) : ∀ (n : Nat) (x1 : Int32) (x2 : Int32) (m : Mm) (H : Heap) (locs : List Loc) (ls : Array Slot), fX1_openUntil_2 i n x1 x2 m = some (r, m') → va_P D vwCl (wsOf cLay cN cA A m) H → va_S (AW cN A) s.heap H locs → lv_has ls 4 [(0, .ref (A (gp i 0))), (1, .int x1), (2, .int x2)] → W p l e { frames := 4, cells := 0, slots := 0, locals := 87 } s m0 args below meth c H locs 0 0 (ZR below args s cLay cN D cA A none m') (F0 m0 2 ls []) := by
  have hx := X.1
  have hb := X.2.1
  have hml := X.2.2.1
  have hown := X.2.2.2.1
  have hts := X.2.2.2.2.1
  have hF := X.2.2.2.2.2.2.2.2.1
  intro n
  induction n with
  | zero =>
    intro x1 x2 m H locs ls h hP hS hl
    exact absurd h (by rewrite [fX1_openUntil_2]; exact fun q => by cases q)
  | succ n ih =>
    intro x1 x2 m H locs ls h hP hS hl
    rewrite [fX1_openUntil_2] at h
    refine lv_iload_n hx hb dX1_openUntil_2 rfl (lv_at hl 2 rfl) ?_
    refine lv_aload_n hx hb dX1_openUntil_3 rfl (lv_at hl 0 rfl) ?_
    refine r_get kc_1 3 X hP (lt_g hi (by decide)) (L_gym hi _) (by decide) rfl wt_1_175 dX1_openUntil_4 ?_
    refine lv_icmp_ge (tgt := 60) hx hb dX1_openUntil_7 (by decide) (fun c_1 => ?_) (fun c_1 => ?_)
    · have h := ifp c_1 h
      exact r_vret X hP hS dX1_openUntil_60 h
    · have h := ifn c_1 h
      refine lv_aload_n hx hb dX1_openUntil_10 rfl (lv_at hl 0 rfl) ?_
      refine r_get kc_1 12 X hP (lt_g hi (by decide)) (L_gym hi _) (by decide) rfl wt_1_196 dX1_openUntil_11 ?_
      refine lv_iload_n hx hb dX1_openUntil_14 rfl (lv_at hl 2 rfl) ?_
      refine lv_iconst (v := 0) hx hb dX1_openUntil_15 (by decide) ?_
      obtain ⟨hin_2, h⟩ := gx_some h
      obtain ⟨m_3, em_4, h⟩ := lt_some h
      refine r_iast X hP hS (lt_g hi (by decide)) (La_g_12 hi) hin_2 rfl dX1_openUntil_16 em_4 (fun H locs hP hS => ?_)
      refine lv_aload_n hx hb dX1_openUntil_17 rfl (lv_at hl 0 rfl) ?_
      refine r_get kc_1 6 X hP (lt_g hi (by decide)) (L_gym hi _) (by decide) rfl wt_1_184 dX1_openUntil_18 ?_
      obtain ⟨x3_5, ex_6, h⟩ := lt_some h
      refine lv_ren ex_6 ?_
      refine lv_istore_n (lv' := [(3, .int x3_5), (0, .ref (A (gp i 0))), (1, .int x1), (2, .int x2)]) hx hb dX1_openUntil_21 rfl hl (by decide) rfl (fun ls hl => ?_)
      exact tX1_openUntil_22 hI hi  (fun x1 x2 m H locs ls  h hP hS hl => ih x1 x2 m H locs ls  h hP hS hl) X FL x1 x2 x3_5 m_3 _ _ _  h hP hS (lv_sub hl [1, 2, 3, 0] rfl)

def fX1_openUntil (i : Nat) (a1 : Int32) (m : Mm) : Option (Int32 × Mm) := (fX1_openUntil_2 i FL a1 0 m)
set_option maxHeartbeats 4000000 in
set_option maxRecDepth 100000 in
theorem tX1_openUntil {l : Launch} {D : va_G} {cA : Nat → ClassId} {A : Nat → Nat} (hI : InjA cN A) {i : Nat} (hi : i < 8) {a1 : Int32} {m m' : Mm} {r : Int32} (h : fX1_openUntil i a1 m = some (r, m')) : Met0 l yX1_openUntil cX1_openUntil 4 none { frames := 4, cells := 0, slots := 0, locals := 87 } cLay cN D cA A [.ref (A (gp i 0)), .int a1] m none m' := by
  refine met0_of (by decide) (Nat.le_of_ble_eq_true rfl) hI ?_
  intro p e s m0 below meth c ls X hinit hP hS hl
  generalize ([.ref (A (gp i 0)), .int a1] : List Value).toArray = args at X ⊢
  have hl : lv_has ls 4 [(0, .ref (A (gp i 0))), (1, .int a1)] := hl
  have X : CX cLay cN D cA A p s m0 args meth c "BenchTowels$Gym" cX1_openUntil 4 none := X
  have hx := X.1
  have hb := X.2.1
  have hml := X.2.2.1
  have hown := X.2.2.2.1
  have hts := X.2.2.2.2.1
  have hF := X.2.2.2.2.2.2.2.2.1
  rewrite [fX1_openUntil] at h
  refine lv_iconst (v := 0) hx hb dX1_openUntil_0 (by decide) ?_
  refine lv_istore_n (lv' := [(2, .int 0), (0, .ref (A (gp i 0))), (1, .int a1)]) hx hb dX1_openUntil_1 rfl hl (by decide) rfl (fun ls hl => ?_)
  exact tX1_openUntil_2 hI hi   X FL a1 0 m _ _ _  h hP hS (lv_sub hl [1, 2, 0] rfl)

def fX1_openFor_4 (i : Nat) : Nat → Int32 → Int32 → Int32 → Mm → Option (Int32 × Mm)
  | 0, _, _, _, _ => none
  | n + 1, x1, x2, x3, m => (if ((m (gp i 0) 3) : Int32) ≤ x3 then some (x2, m) else (if ((x1 >>> (x3 &&& 31)) &&& 1) = 1 then gx x3 6 (lt (x2 ||| (m (gp i 12) (ix x3))) fun x2_6 => lt ((x3 : Int32) + 1) fun x3_8 => (fX1_openFor_4 i n x1 x2_6 x3_8 m)) else lt ((x3 : Int32) + 1) fun x3_3 => (fX1_openFor_4 i n x1 x2 x3_3 m)))
set_option maxHeartbeats 4000000 in
set_option maxRecDepth 100000 in
theorem tX1_openFor_4 (hI : InjA cN A) {i : Nat} (hi : i < 8) {r : Int32} {m' : Mm} (X : CX cLay cN D cA A p s m0 args meth c "BenchTowels$Gym" cX1_openFor 4 (some .int)) : ∀ (n : Nat) (x1 : Int32) (x2 : Int32) (x3 : Int32) (m : Mm) (H : Heap) (locs : List Loc) (ls : Array Slot), fX1_openFor_4 i n x1 x2 x3 m = some (r, m') → va_P D vwCl (wsOf cLay cN cA A m) H → va_S (AW cN A) s.heap H locs → lv_has ls 4 [(0, .ref (A (gp i 0))), (1, .int x1), (2, .int x2), (3, .int x3)] → W p l e { frames := 0, cells := 0, slots := 0, locals := 0 } s m0 args below meth c H locs 0 0 (ZR below args s cLay cN D cA A (some (.int r)) m') (F0 m0 4 ls []) := by
  have hx := X.1
  have hb := X.2.1
  have hml := X.2.2.1
  have hown := X.2.2.2.1
  have hts := X.2.2.2.2.1
  have hF := X.2.2.2.2.2.2.2.2.1
  intro n
  induction n with
  | zero =>
    intro x1 x2 x3 m H locs ls h hP hS hl
    exact absurd h (by rewrite [fX1_openFor_4]; exact fun q => by cases q)
  | succ n ih =>
    intro x1 x2 x3 m H locs ls h hP hS hl
    rewrite [fX1_openFor_4] at h
    refine lv_iload_n hx hb dX1_openFor_4 rfl (lv_at hl 3 rfl) ?_
    refine lv_aload_n hx hb dX1_openFor_5 rfl (lv_at hl 0 rfl) ?_
    refine r_get kc_1 3 X hP (lt_g hi (by decide)) (L_gym hi _) (by decide) rfl wt_1_175 dX1_openFor_6 ?_
    refine lv_icmp_ge (tgt := 36) hx hb dX1_openFor_9 (by decide) (fun c_1 => ?_) (fun c_1 => ?_)
    · have h := ifp c_1 h
      refine lv_iload_n hx hb dX1_openFor_36 rfl (lv_at hl 2 rfl) ?_
      exact r_iret X hP hS dX1_openFor_37 h
    · have h := ifn c_1 h
      refine lv_iload_n hx hb dX1_openFor_12 rfl (lv_at hl 1 rfl) ?_
      refine lv_iload_n hx hb dX1_openFor_13 rfl (lv_at hl 3 rfl) ?_
      refine lv_ishr hx hb dX1_openFor_14 ?_
      refine lv_iconst (v := 1) hx hb dX1_openFor_15 (by decide) ?_
      refine lv_iand hx hb dX1_openFor_16 ?_
      refine lv_iconst (v := 1) hx hb dX1_openFor_17 (by decide) ?_
      refine lv_icmp_ne (tgt := 30) hx hb dX1_openFor_18 (by decide) (fun c_2 => ?_) (fun c_2 => ?_)
      · have h := ifn c_2 h
        obtain ⟨x3_3, ex_4, h⟩ := lt_some h
        refine lv_iinc (v := x3_3) (lv' := [(3, .int x3_3), (0, .ref (A (gp i 0))), (1, .int x1), (2, .int x2)]) hx hb dX1_openFor_30 hl (k := 3) rfl (by rw [ex_4]; rfl) (by decide) rfl (fun ls hl => ?_)
        refine lv_goto (tgt := 4) hx hb dX1_openFor_33 (by decide) ?_
        exact ih x1 x2 x3_3 m _ _ _  h hP hS (lv_sub hl [1, 2, 3, 0] rfl)
      · have h := ifp c_2 h
        refine lv_iload_n hx hb dX1_openFor_21 rfl (lv_at hl 2 rfl) ?_
        refine lv_aload_n hx hb dX1_openFor_22 rfl (lv_at hl 0 rfl) ?_
        refine r_get kc_1 12 X hP (lt_g hi (by decide)) (L_gym hi _) (by decide) rfl wt_1_196 dX1_openFor_23 ?_
        refine lv_iload_n hx hb dX1_openFor_26 rfl (lv_at hl 3 rfl) ?_
        obtain ⟨hin_5, h⟩ := gx_some h
        refine r_iald X hP (lt_g hi (by decide)) ((La_g_12 hi) _) hin_5 rfl dX1_openFor_27 ?_
        refine lv_ior hx hb dX1_openFor_28 ?_
        obtain ⟨x2_6, ex_7, h⟩ := lt_some h
        refine lv_ren ex_7 ?_
        refine lv_istore_n (lv' := [(2, .int x2_6), (0, .ref (A (gp i 0))), (1, .int x1), (3, .int x3)]) hx hb dX1_openFor_29 rfl hl (by decide) rfl (fun ls hl => ?_)
        obtain ⟨x3_8, ex_9, h⟩ := lt_some h
        refine lv_iinc (v := x3_8) (lv' := [(3, .int x3_8), (2, .int x2_6), (0, .ref (A (gp i 0))), (1, .int x1)]) hx hb dX1_openFor_30 hl (k := 3) rfl (by rw [ex_9]; rfl) (by decide) rfl (fun ls hl => ?_)
        refine lv_goto (tgt := 4) hx hb dX1_openFor_33 (by decide) ?_
        exact ih x1 x2_6 x3_8 m _ _ _  h hP hS (lv_sub hl [2, 3, 1, 0] rfl)

def fX1_openFor (i : Nat) (a1 : Int32) (m : Mm) : Option (Int32 × Mm) := (fX1_openFor_4 i FL a1 0 0 m)
set_option maxHeartbeats 4000000 in
set_option maxRecDepth 100000 in
theorem tX1_openFor {l : Launch} {D : va_G} {cA : Nat → ClassId} {A : Nat → Nat} (hI : InjA cN A) {i : Nat} (hi : i < 8) {a1 : Int32} {m m' : Mm} {r : Int32} (h : fX1_openFor i a1 m = some (r, m')) : Met0 l yX1_openFor cX1_openFor 4 (some .int) { frames := 0, cells := 0, slots := 0, locals := 0 } cLay cN D cA A [.ref (A (gp i 0)), .int a1] m (some (.int r)) m' := by
  refine met0_of (by decide) (Nat.le_of_ble_eq_true rfl) hI ?_
  intro p e s m0 below meth c ls X hinit hP hS hl
  generalize ([.ref (A (gp i 0)), .int a1] : List Value).toArray = args at X ⊢
  have hl : lv_has ls 4 [(0, .ref (A (gp i 0))), (1, .int a1)] := hl
  have X : CX cLay cN D cA A p s m0 args meth c "BenchTowels$Gym" cX1_openFor 4 (some .int) := X
  have hx := X.1
  have hb := X.2.1
  have hml := X.2.2.1
  have hown := X.2.2.2.1
  have hts := X.2.2.2.2.1
  have hF := X.2.2.2.2.2.2.2.2.1
  rewrite [fX1_openFor] at h
  refine lv_iconst (v := 0) hx hb dX1_openFor_0 (by decide) ?_
  refine lv_istore_n (lv' := [(2, .int 0), (0, .ref (A (gp i 0))), (1, .int a1)]) hx hb dX1_openFor_1 rfl hl (by decide) rfl (fun ls hl => ?_)
  refine lv_iconst (v := 0) hx hb dX1_openFor_2 (by decide) ?_
  refine lv_istore_n (lv' := [(3, .int 0), (2, .int 0), (0, .ref (A (gp i 0))), (1, .int a1)]) hx hb dX1_openFor_3 rfl hl (by decide) rfl (fun ls hl => ?_)
  exact tX1_openFor_4 hI hi   X FL a1 0 0 m _ _ _  h hP hS (lv_sub hl [2, 3, 1, 0] rfl)

def fJ6_bitCount_0f7a4 (a1 : Int32) (m : Mm) : Option (Int32 × Mm) := lt (a1 - (((Int32.toUInt32 a1 >>> (Int32.toUInt32 1 &&& Int32.toUInt32 31)).toInt32) &&& 1431655765)) fun x0_1 => lt ((x0_1 &&& 858993459) + (((Int32.toUInt32 x0_1 >>> (Int32.toUInt32 2 &&& Int32.toUInt32 31)).toInt32) &&& 858993459)) fun x0_3 => lt ((x0_3 + ((Int32.toUInt32 x0_3 >>> (Int32.toUInt32 4 &&& Int32.toUInt32 31)).toInt32)) &&& 252645135) fun x0_5 => lt (x0_5 + ((Int32.toUInt32 x0_5 >>> (Int32.toUInt32 8 &&& Int32.toUInt32 31)).toInt32)) fun x0_7 => lt (x0_7 + ((Int32.toUInt32 x0_7 >>> (Int32.toUInt32 16 &&& Int32.toUInt32 31)).toInt32)) fun x0_9 => some ((x0_9 &&& 63), m)
set_option maxHeartbeats 4000000 in
set_option maxRecDepth 100000 in
theorem tJ6_bitCount_0f7a4 {l : Launch} {D : va_G} {cA : Nat → ClassId} {A : Nat → Nat} (hI : InjA cN A) {a1 : Int32} {m m' : Mm} {r : Int32} (h : fJ6_bitCount_0f7a4 a1 m = some (r, m')) : Met0 l yJ6_bitCount_0f7a4 cJ6_bitCount_0f7a4 1 (some .int) { frames := 0, cells := 0, slots := 0, locals := 0 } cLay cN D cA A [.int a1] m (some (.int r)) m' := by
  refine met0_of (by decide) (Nat.le_of_ble_eq_true rfl) hI ?_
  intro p e s m0 below meth c ls X hinit hP hS hl
  generalize ([.int a1] : List Value).toArray = args at X ⊢
  have hl : lv_has ls 1 [(0, .int a1)] := hl
  have X : CX cLay cN D cA A p s m0 args meth c "java/lang/Integer" cJ6_bitCount_0f7a4 1 (some .int) := X
  have hx := X.1
  have hb := X.2.1
  have hml := X.2.2.1
  have hown := X.2.2.2.1
  have hts := X.2.2.2.2.1
  have hF := X.2.2.2.2.2.2.2.2.1
  rewrite [fJ6_bitCount_0f7a4] at h
  refine lv_iload_n hx hb dJ6_bitCount_0f7a4_0 rfl (lv_at hl 0 rfl) ?_
  refine lv_iload_n hx hb dJ6_bitCount_0f7a4_1 rfl (lv_at hl 0 rfl) ?_
  refine lv_iconst (v := 1) hx hb dJ6_bitCount_0f7a4_2 (by decide) ?_
  refine lv_iushr hx hb dJ6_bitCount_0f7a4_3 rfl ?_
  refine lv_ldcw (v := 1431655765) hx hb hown (hts _ wt_4_61) dJ6_bitCount_0f7a4_4 ?_
  refine lv_iand hx hb dJ6_bitCount_0f7a4_7 ?_
  refine lv_isub hx hb dJ6_bitCount_0f7a4_8 ?_
  obtain ⟨x0_1, ex_2, h⟩ := lt_some h
  refine lv_ren ex_2 ?_
  refine lv_istore_n (lv' := [(0, .int x0_1)]) hx hb dJ6_bitCount_0f7a4_9 rfl hl (by decide) rfl (fun ls hl => ?_)
  refine lv_iload_n hx hb dJ6_bitCount_0f7a4_10 rfl (lv_at hl 0 rfl) ?_
  refine lv_ldcw (v := 858993459) hx hb hown (hts _ wt_4_62) dJ6_bitCount_0f7a4_11 ?_
  refine lv_iand hx hb dJ6_bitCount_0f7a4_14 ?_
  refine lv_iload_n hx hb dJ6_bitCount_0f7a4_15 rfl (lv_at hl 0 rfl) ?_
  refine lv_iconst (v := 2) hx hb dJ6_bitCount_0f7a4_16 (by decide) ?_
  refine lv_iushr hx hb dJ6_bitCount_0f7a4_17 rfl ?_
  refine lv_ldcw (v := 858993459) hx hb hown (hts _ wt_4_62) dJ6_bitCount_0f7a4_18 ?_
  refine lv_iand hx hb dJ6_bitCount_0f7a4_21 ?_
  refine lv_iadd hx hb dJ6_bitCount_0f7a4_22 ?_
  obtain ⟨x0_3, ex_4, h⟩ := lt_some h
  refine lv_ren ex_4 ?_
  refine lv_istore_n (lv' := [(0, .int x0_3)]) hx hb dJ6_bitCount_0f7a4_23 rfl hl (by decide) rfl (fun ls hl => ?_)
  refine lv_iload_n hx hb dJ6_bitCount_0f7a4_24 rfl (lv_at hl 0 rfl) ?_
  refine lv_iload_n hx hb dJ6_bitCount_0f7a4_25 rfl (lv_at hl 0 rfl) ?_
  refine lv_iconst (v := 4) hx hb dJ6_bitCount_0f7a4_26 (by decide) ?_
  refine lv_iushr hx hb dJ6_bitCount_0f7a4_27 rfl ?_
  refine lv_iadd hx hb dJ6_bitCount_0f7a4_28 ?_
  refine lv_ldcw (v := 252645135) hx hb hown (hts _ wt_4_63) dJ6_bitCount_0f7a4_29 ?_
  refine lv_iand hx hb dJ6_bitCount_0f7a4_32 ?_
  obtain ⟨x0_5, ex_6, h⟩ := lt_some h
  refine lv_ren ex_6 ?_
  refine lv_istore_n (lv' := [(0, .int x0_5)]) hx hb dJ6_bitCount_0f7a4_33 rfl hl (by decide) rfl (fun ls hl => ?_)
  refine lv_iload_n hx hb dJ6_bitCount_0f7a4_34 rfl (lv_at hl 0 rfl) ?_
  refine lv_iload_n hx hb dJ6_bitCount_0f7a4_35 rfl (lv_at hl 0 rfl) ?_
  refine lv_bipush (v := 8) hx hb dJ6_bitCount_0f7a4_36 (by decide) ?_
  refine lv_iushr hx hb dJ6_bitCount_0f7a4_38 rfl ?_
  refine lv_iadd hx hb dJ6_bitCount_0f7a4_39 ?_
  obtain ⟨x0_7, ex_8, h⟩ := lt_some h
  refine lv_ren ex_8 ?_
  refine lv_istore_n (lv' := [(0, .int x0_7)]) hx hb dJ6_bitCount_0f7a4_40 rfl hl (by decide) rfl (fun ls hl => ?_)
  refine lv_iload_n hx hb dJ6_bitCount_0f7a4_41 rfl (lv_at hl 0 rfl) ?_
  refine lv_iload_n hx hb dJ6_bitCount_0f7a4_42 rfl (lv_at hl 0 rfl) ?_
  refine lv_bipush (v := 16) hx hb dJ6_bitCount_0f7a4_43 (by decide) ?_
  refine lv_iushr hx hb dJ6_bitCount_0f7a4_45 rfl ?_
  refine lv_iadd hx hb dJ6_bitCount_0f7a4_46 ?_
  obtain ⟨x0_9, ex_10, h⟩ := lt_some h
  refine lv_ren ex_10 ?_
  refine lv_istore_n (lv' := [(0, .int x0_9)]) hx hb dJ6_bitCount_0f7a4_47 rfl hl (by decide) rfl (fun ls hl => ?_)
  refine lv_iload_n hx hb dJ6_bitCount_0f7a4_48 rfl (lv_at hl 0 rfl) ?_
  refine lv_bipush (v := 63) hx hb dJ6_bitCount_0f7a4_49 (by decide) ?_
  refine lv_iand hx hb dJ6_bitCount_0f7a4_51 ?_
  exact r_iret X hP hS dJ6_bitCount_0f7a4_52 h

def fX1_eachHasOne_2 (i : Nat) : Nat → Int32 → Int32 → Mm → Option (Int32 × Mm)
  | 0, _, _, _ => none
  | n + 1, x1, x2, m => (if (x1 : Int32) < x2 then some (1, m) else (if (x2 &&& (x1 ^^^ (-1))) = 0 then bd (fX1_openFor i x2 m) fun r_5 m_6 => bd (fJ6_bitCount_0f7a4 r_5 m_6) fun r_8 m_9 => bd (fJ6_bitCount_0f7a4 x2 m_9) fun r_11 m_12 => (if (r_11 : Int32) ≤ r_8 then lt ((x2 : Int32) + 1) fun x2_15 => (fX1_eachHasOne_2 i n x1 x2_15 m_12) else some (0, m_12)) else lt ((x2 : Int32) + 1) fun x2_3 => (fX1_eachHasOne_2 i n x1 x2_3 m)))
set_option maxHeartbeats 4000000 in
set_option maxRecDepth 100000 in
theorem tX1_eachHasOne_2 (hI : InjA cN A) {i : Nat} (hi : i < 8) {r : Int32} {m' : Mm} (X : CX cLay cN D cA A p s m0 args meth c "BenchTowels$Gym" cX1_eachHasOne 3 (some .boolean)) : ∀ (n : Nat) (x1 : Int32) (x2 : Int32) (m : Mm) (H : Heap) (locs : List Loc) (ls : Array Slot), fX1_eachHasOne_2 i n x1 x2 m = some (r, m') → va_P D vwCl (wsOf cLay cN cA A m) H → va_S (AW cN A) s.heap H locs → lv_has ls 3 [(0, .ref (A (gp i 0))), (1, .int x1), (2, .int x2)] → W p l e { frames := 1, cells := 0, slots := 0, locals := 23 } s m0 args below meth c H locs 0 0 (ZR below args s cLay cN D cA A (some (.int r)) m') (F0 m0 2 ls []) := by
  have hx := X.1
  have hb := X.2.1
  have hml := X.2.2.1
  have hown := X.2.2.2.1
  have hts := X.2.2.2.2.1
  have hF := X.2.2.2.2.2.2.2.2.1
  intro n
  induction n with
  | zero =>
    intro x1 x2 m H locs ls h hP hS hl
    exact absurd h (by rewrite [fX1_eachHasOne_2]; exact fun q => by cases q)
  | succ n ih =>
    intro x1 x2 m H locs ls h hP hS hl
    rewrite [fX1_eachHasOne_2] at h
    refine lv_iload_n hx hb dX1_eachHasOne_2 rfl (lv_at hl 2 rfl) ?_
    refine lv_iload_n hx hb dX1_eachHasOne_3 rfl (lv_at hl 1 rfl) ?_
    refine lv_icmp_gt (tgt := 38) hx hb dX1_eachHasOne_4 (by decide) (fun c_1 => ?_) (fun c_1 => ?_)
    · have h := ifp c_1 h
      refine lv_iconst (v := 1) hx hb dX1_eachHasOne_38 (by decide) ?_
      exact r_zret X (Or.inr rfl) hP hS dX1_eachHasOne_39 h
    · have h := ifn c_1 h
      refine lv_iload_n hx hb dX1_eachHasOne_7 rfl (lv_at hl 2 rfl) ?_
      refine lv_iload_n hx hb dX1_eachHasOne_8 rfl (lv_at hl 1 rfl) ?_
      refine lv_iconst (v := (-1)) hx hb dX1_eachHasOne_9 (by decide) ?_
      refine lv_ixor hx hb dX1_eachHasOne_10 ?_
      refine lv_iand hx hb dX1_eachHasOne_11 ?_
      refine lv_if_ne (tgt := 32) hx hb dX1_eachHasOne_12 (by decide) (fun c_2 => ?_) (fun c_2 => ?_)
      · have h := ifn c_2 h
        obtain ⟨x2_3, ex_4, h⟩ := lt_some h
        refine lv_iinc (v := x2_3) (lv' := [(2, .int x2_3), (0, .ref (A (gp i 0))), (1, .int x1)]) hx hb dX1_eachHasOne_32 hl (k := 2) rfl (by rw [ex_4]; rfl) (by decide) rfl (fun ls hl => ?_)
        refine lv_goto (tgt := 2) hx hb dX1_eachHasOne_35 (by decide) ?_
        exact ih x1 x2_3 m _ _ _  h hP hS (lv_sub hl [1, 2, 0] rfl)
      · have h := ifp c_2 h
        refine lv_aload_n hx hb dX1_eachHasOne_15 rfl (lv_at hl 0 rfl) ?_
        refine lv_iload_n hx hb dX1_eachHasOne_16 rfl (lv_at hl 2 rfl) ?_
        obtain ⟨r_5, m_6, hc_7, h⟩ := bd_some h
        refine c_V (rest := []) X hP hS (tX1_openFor hI hi hc_7) (lt_g hi (by decide)) (L_gym hi _) rfl wt_4_54 wt_4_55 wt_4_56 wt_1_10 wt_4_57 ⟨rfl, hy_X1_openFor⟩ ⟨rfl, rfl⟩ ⟨Nat.le_of_ble_eq_true rfl, Nat.le_of_ble_eq_true rfl⟩ rfl hl.1 rfl (Nat.le_of_ble_eq_true rfl) dX1_eachHasOne_17 rfl (fun H locs hP hS => ?_)
        obtain ⟨r_8, m_9, hc_10, h⟩ := bd_some h
        refine c_S (rest := []) X hP hS (tJ6_bitCount_0f7a4 hI  hc_10) wt_4_58 wt_4_59 wt_1_20 wt_4_60 hy_J6_bitCount_0f7a4 ⟨rfl, rfl⟩ ⟨Nat.le_of_ble_eq_true rfl, Nat.le_of_ble_eq_true rfl⟩ rfl hl.1 rfl (Nat.le_of_ble_eq_true rfl) dX1_eachHasOne_20 rfl (fun H locs hP hS => ?_)
        refine lv_iload_n hx hb dX1_eachHasOne_23 rfl (lv_at hl 2 rfl) ?_
        obtain ⟨r_11, m_12, hc_13, h⟩ := bd_some h
        refine c_S (rest := [.int r_8]) X hP hS (tJ6_bitCount_0f7a4 hI  hc_13) wt_4_58 wt_4_59 wt_1_20 wt_4_60 hy_J6_bitCount_0f7a4 ⟨rfl, rfl⟩ ⟨Nat.le_of_ble_eq_true rfl, Nat.le_of_ble_eq_true rfl⟩ rfl hl.1 rfl (Nat.le_of_ble_eq_true rfl) dX1_eachHasOne_24 rfl (fun H locs hP hS => ?_)
        refine lv_icmp_ge (tgt := 32) hx hb dX1_eachHasOne_27 (by decide) (fun c_14 => ?_) (fun c_14 => ?_)
        · have h := ifp c_14 h
          obtain ⟨x2_15, ex_16, h⟩ := lt_some h
          refine lv_iinc (v := x2_15) (lv' := [(2, .int x2_15), (0, .ref (A (gp i 0))), (1, .int x1)]) hx hb dX1_eachHasOne_32 hl (k := 2) rfl (by rw [ex_16]; rfl) (by decide) rfl (fun ls hl => ?_)
          refine lv_goto (tgt := 2) hx hb dX1_eachHasOne_35 (by decide) ?_
          exact ih x1 x2_15 m_12 _ _ _  h hP hS (lv_sub hl [1, 2, 0] rfl)
        · have h := ifn c_14 h
          refine lv_iconst (v := 0) hx hb dX1_eachHasOne_30 (by decide) ?_
          exact r_zret X (Or.inl rfl) hP hS dX1_eachHasOne_31 h

def fX1_eachHasOne (i : Nat) (a1 : Int32) (m : Mm) : Option (Int32 × Mm) := (fX1_eachHasOne_2 i FL a1 1 m)
set_option maxHeartbeats 4000000 in
set_option maxRecDepth 100000 in
theorem tX1_eachHasOne {l : Launch} {D : va_G} {cA : Nat → ClassId} {A : Nat → Nat} (hI : InjA cN A) {i : Nat} (hi : i < 8) {a1 : Int32} {m m' : Mm} {r : Int32} (h : fX1_eachHasOne i a1 m = some (r, m')) : Met0 l yX1_eachHasOne cX1_eachHasOne 3 (some .boolean) { frames := 1, cells := 0, slots := 0, locals := 23 } cLay cN D cA A [.ref (A (gp i 0)), .int a1] m (some (.int r)) m' := by
  refine met0_of (by decide) (Nat.le_of_ble_eq_true rfl) hI ?_
  intro p e s m0 below meth c ls X hinit hP hS hl
  generalize ([.ref (A (gp i 0)), .int a1] : List Value).toArray = args at X ⊢
  have hl : lv_has ls 3 [(0, .ref (A (gp i 0))), (1, .int a1)] := hl
  have X : CX cLay cN D cA A p s m0 args meth c "BenchTowels$Gym" cX1_eachHasOne 3 (some .boolean) := X
  have hx := X.1
  have hb := X.2.1
  have hml := X.2.2.1
  have hown := X.2.2.2.1
  have hts := X.2.2.2.2.1
  have hF := X.2.2.2.2.2.2.2.2.1
  rewrite [fX1_eachHasOne] at h
  refine lv_iconst (v := 1) hx hb dX1_eachHasOne_0 (by decide) ?_
  refine lv_istore_n (lv' := [(2, .int 1), (0, .ref (A (gp i 0))), (1, .int a1)]) hx hb dX1_eachHasOne_1 rfl hl (by decide) rfl (fun ls hl => ?_)
  exact tX1_eachHasOne_2 hI hi   X FL a1 1 m _ _ _  h hP hS (lv_sub hl [1, 2, 0] rfl)

def fX1_gatherBy_14 (i : Nat) : Nat → Int32 → Int32 → Mm → Option (Int32 × Mm)
  | 0, _, _, _ => none
  | n + 1, x1, x2, m => (if ((m (gp i 0) 7) : Int32) ≤ x2 then some ((-3), m) else bd (fX1_openUntil i x2 m) fun r_5 m_6 => bd (fX1_eachHasOne i x1 m_6) fun r_8 m_9 => (if r_8 = 0 then lt ((x2 : Int32) + 1) fun x2_12 => (fX1_gatherBy_14 i n x1 x2_12 m_9) else some (x2, m_9)))
set_option maxHeartbeats 4000000 in
set_option maxRecDepth 100000 in
theorem tX1_gatherBy_14 (hI : InjA cN A) {i : Nat} (hi : i < 8) {r : Int32} {m' : Mm} (X : CX cLay cN D cA A p s m0 args meth c "BenchTowels$Gym" cX1_gatherBy 3 (some .int)) : ∀ (n : Nat) (x1 : Int32) (x2 : Int32) (m : Mm) (H : Heap) (locs : List Loc) (ls : Array Slot), fX1_gatherBy_14 i n x1 x2 m = some (r, m') → va_P D vwCl (wsOf cLay cN cA A m) H → va_S (AW cN A) s.heap H locs → lv_has ls 3 [(0, .ref (A (gp i 0))), (1, .int x1), (2, .int x2)] → W p l e { frames := 5, cells := 0, slots := 0, locals := 110 } s m0 args below meth c H locs 0 0 (ZR below args s cLay cN D cA A (some (.int r)) m') (F0 m0 14 ls []) := by
  have hx := X.1
  have hb := X.2.1
  have hml := X.2.2.1
  have hown := X.2.2.2.1
  have hts := X.2.2.2.2.1
  have hF := X.2.2.2.2.2.2.2.2.1
  intro n
  induction n with
  | zero =>
    intro x1 x2 m H locs ls h hP hS hl
    exact absurd h (by rewrite [fX1_gatherBy_14]; exact fun q => by cases q)
  | succ n ih =>
    intro x1 x2 m H locs ls h hP hS hl
    rewrite [fX1_gatherBy_14] at h
    refine lv_iload_n hx hb dX1_gatherBy_14 rfl (lv_at hl 2 rfl) ?_
    refine lv_aload_n hx hb dX1_gatherBy_15 rfl (lv_at hl 0 rfl) ?_
    refine r_get kc_1 7 X hP (lt_g hi (by decide)) (L_gym hi _) (by decide) rfl wt_1_185 dX1_gatherBy_16 ?_
    refine lv_icmp_ge (tgt := 43) hx hb dX1_gatherBy_19 (by decide) (fun c_4 => ?_) (fun c_4 => ?_)
    · have h := ifp c_4 h
      refine lv_bipush (v := (-3)) hx hb dX1_gatherBy_43 (by decide) ?_
      exact r_iret X hP hS dX1_gatherBy_45 h
    · have h := ifn c_4 h
      refine lv_aload_n hx hb dX1_gatherBy_22 rfl (lv_at hl 0 rfl) ?_
      refine lv_iload_n hx hb dX1_gatherBy_23 rfl (lv_at hl 2 rfl) ?_
      obtain ⟨r_5, m_6, hc_7, h⟩ := bd_some h
      refine c_V (rest := []) X hP hS (tX1_openUntil hI hi hc_7) (lt_g hi (by decide)) (L_gym hi _) rfl wt_4_46 wt_4_47 wt_4_48 wt_1_10 wt_4_49 ⟨rfl, hy_X1_openUntil⟩ ⟨rfl, rfl⟩ ⟨Nat.le_of_ble_eq_true rfl, Nat.le_of_ble_eq_true rfl⟩ rfl hl.1 rfl (Nat.le_of_ble_eq_true rfl) dX1_gatherBy_24 rfl (fun H locs hP hS => ?_)
      refine lv_aload_n hx hb dX1_gatherBy_27 rfl (lv_at hl 0 rfl) ?_
      refine lv_iload_n hx hb dX1_gatherBy_28 rfl (lv_at hl 1 rfl) ?_
      obtain ⟨r_8, m_9, hc_10, h⟩ := bd_some h
      refine c_V (rest := []) X hP hS (tX1_eachHasOne hI hi hc_10) (lt_g hi (by decide)) (L_gym hi _) rfl wt_4_50 wt_4_51 wt_4_52 wt_1_10 wt_4_53 ⟨rfl, hy_X1_eachHasOne⟩ ⟨rfl, rfl⟩ ⟨Nat.le_of_ble_eq_true rfl, Nat.le_of_ble_eq_true rfl⟩ rfl hl.1 rfl (Nat.le_of_ble_eq_true rfl) dX1_gatherBy_29 rfl (fun H locs hP hS => ?_)
      refine lv_if_eq (tgt := 37) hx hb dX1_gatherBy_32 (by decide) (fun c_11 => ?_) (fun c_11 => ?_)
      · have h := ifp c_11 h
        obtain ⟨x2_12, ex_13, h⟩ := lt_some h
        refine lv_iinc (v := x2_12) (lv' := [(2, .int x2_12), (0, .ref (A (gp i 0))), (1, .int x1)]) hx hb dX1_gatherBy_37 hl (k := 2) rfl (by rw [ex_13]; rfl) (by decide) rfl (fun ls hl => ?_)
        refine lv_goto (tgt := 14) hx hb dX1_gatherBy_40 (by decide) ?_
        exact ih x1 x2_12 m_9 _ _ _  h hP hS (lv_sub hl [1, 2, 0] rfl)
      · have h := ifn c_11 h
        refine lv_iload_n hx hb dX1_gatherBy_35 rfl (lv_at hl 2 rfl) ?_
        exact r_iret X hP hS dX1_gatherBy_36 h

def fX1_gatherBy (i : Nat) (a1 : Int32) (m : Mm) : Option (Int32 × Mm) := (if a1 = 0 then some ((m (gp i 0) 6), m) else lt (m (gp i 0) 6) fun x2_2 => (fX1_gatherBy_14 i FL a1 x2_2 m))
set_option maxHeartbeats 4000000 in
set_option maxRecDepth 100000 in
theorem tX1_gatherBy {l : Launch} {D : va_G} {cA : Nat → ClassId} {A : Nat → Nat} (hI : InjA cN A) {i : Nat} (hi : i < 8) {a1 : Int32} {m m' : Mm} {r : Int32} (h : fX1_gatherBy i a1 m = some (r, m')) : Met0 l yX1_gatherBy cX1_gatherBy 3 (some .int) { frames := 5, cells := 0, slots := 0, locals := 110 } cLay cN D cA A [.ref (A (gp i 0)), .int a1] m (some (.int r)) m' := by
  refine met0_of (by decide) (Nat.le_of_ble_eq_true rfl) hI ?_
  intro p e s m0 below meth c ls X hinit hP hS hl
  generalize ([.ref (A (gp i 0)), .int a1] : List Value).toArray = args at X ⊢
  have hl : lv_has ls 3 [(0, .ref (A (gp i 0))), (1, .int a1)] := hl
  have X : CX cLay cN D cA A p s m0 args meth c "BenchTowels$Gym" cX1_gatherBy 3 (some .int) := X
  have hx := X.1
  have hb := X.2.1
  have hml := X.2.2.1
  have hown := X.2.2.2.1
  have hts := X.2.2.2.2.1
  have hF := X.2.2.2.2.2.2.2.2.1
  rewrite [fX1_gatherBy] at h
  refine lv_iload_n hx hb dX1_gatherBy_0 rfl (lv_at hl 1 rfl) ?_
  refine lv_if_ne (tgt := 9) hx hb dX1_gatherBy_1 (by decide) (fun c_1 => ?_) (fun c_1 => ?_)
  · have h := ifn c_1 h
    refine lv_aload_n hx hb dX1_gatherBy_9 rfl (lv_at hl 0 rfl) ?_
    refine r_get kc_1 6 X hP (lt_g hi (by decide)) (L_gym hi _) (by decide) rfl wt_1_184 dX1_gatherBy_10 ?_
    obtain ⟨x2_2, ex_3, h⟩ := lt_some h
    refine lv_ren ex_3 ?_
    refine lv_istore_n (lv' := [(2, .int x2_2), (0, .ref (A (gp i 0))), (1, .int a1)]) hx hb dX1_gatherBy_13 rfl hl (by decide) rfl (fun ls hl => ?_)
    exact tX1_gatherBy_14 hI hi   X FL a1 x2_2 m _ _ _  h hP hS (lv_sub hl [1, 2, 0] rfl)
  · have h := ifp c_1 h
    refine lv_aload_n hx hb dX1_gatherBy_4 rfl (lv_at hl 0 rfl) ?_
    refine r_get kc_1 6 X hP (lt_g hi (by decide)) (L_gym hi _) (by decide) rfl wt_1_184 dX1_gatherBy_5 ?_
    exact r_iret X hP hS dX1_gatherBy_8 h

def fX11_leastOf_2  : Nat → Int32 → Int32 → Mm → Option (Int32 × Mm)
  | 0, _, _, _ => none
  | n + 1, x0, x1, m => (if (31 : Int32) ≤ x1 then some (x1, m) else (if ((x0 >>> (x1 &&& 31)) &&& 1) = 0 then lt ((x1 : Int32) + 1) fun x1_3 => (fX11_leastOf_2 n x0 x1_3 m) else some (x1, m)))
set_option maxHeartbeats 4000000 in
set_option maxRecDepth 100000 in
theorem tX11_leastOf_2 (hI : InjA cN A)  {r : Int32} {m' : Mm} (X : CX cLay cN D cA A p s m0 args meth c "BenchTowels" cX11_leastOf 2 (some .int)) : ∀ (n : Nat) (x0 : Int32) (x1 : Int32) (m : Mm) (H : Heap) (locs : List Loc) (ls : Array Slot), fX11_leastOf_2 n x0 x1 m = some (r, m') → va_P D vwCl (wsOf cLay cN cA A m) H → va_S (AW cN A) s.heap H locs → lv_has ls 2 [(0, .int x0), (1, .int x1)] → W p l e { frames := 0, cells := 0, slots := 0, locals := 0 } s m0 args below meth c H locs 0 0 (ZR below args s cLay cN D cA A (some (.int r)) m') (F0 m0 2 ls []) := by
  have hx := X.1
  have hb := X.2.1
  have hml := X.2.2.1
  have hown := X.2.2.2.1
  have hts := X.2.2.2.2.1
  have hF := X.2.2.2.2.2.2.2.2.1
  intro n
  induction n with
  | zero =>
    intro x0 x1 m H locs ls h hP hS hl
    exact absurd h (by rewrite [fX11_leastOf_2]; exact fun q => by cases q)
  | succ n ih =>
    intro x0 x1 m H locs ls h hP hS hl
    rewrite [fX11_leastOf_2] at h
    refine lv_iload_n hx hb dX11_leastOf_2 rfl (lv_at hl 1 rfl) ?_
    refine lv_bipush (v := 31) hx hb dX11_leastOf_3 (by decide) ?_
    refine lv_icmp_ge (tgt := 22) hx hb dX11_leastOf_5 (by decide) (fun c_1 => ?_) (fun c_1 => ?_)
    · have h := ifp c_1 h
      refine lv_iload_n hx hb dX11_leastOf_22 rfl (lv_at hl 1 rfl) ?_
      exact r_iret X hP hS dX11_leastOf_23 h
    · have h := ifn c_1 h
      refine lv_iload_n hx hb dX11_leastOf_8 rfl (lv_at hl 0 rfl) ?_
      refine lv_iload_n hx hb dX11_leastOf_9 rfl (lv_at hl 1 rfl) ?_
      refine lv_ishr hx hb dX11_leastOf_10 ?_
      refine lv_iconst (v := 1) hx hb dX11_leastOf_11 (by decide) ?_
      refine lv_iand hx hb dX11_leastOf_12 ?_
      refine lv_if_ne (tgt := 22) hx hb dX11_leastOf_13 (by decide) (fun c_2 => ?_) (fun c_2 => ?_)
      · have h := ifn c_2 h
        refine lv_iload_n hx hb dX11_leastOf_22 rfl (lv_at hl 1 rfl) ?_
        exact r_iret X hP hS dX11_leastOf_23 h
      · have h := ifp c_2 h
        obtain ⟨x1_3, ex_4, h⟩ := lt_some h
        refine lv_iinc (v := x1_3) (lv' := [(1, .int x1_3), (0, .int x0)]) hx hb dX11_leastOf_16 hl (k := 1) rfl (by rw [ex_4]; rfl) (by decide) rfl (fun ls hl => ?_)
        refine lv_goto (tgt := 2) hx hb dX11_leastOf_19 (by decide) ?_
        exact ih x0 x1_3 m _ _ _  h hP hS (lv_sub hl [1, 0] rfl)

def fX11_leastOf (a1 : Int32) (m : Mm) : Option (Int32 × Mm) := (fX11_leastOf_2  FL a1 0 m)
set_option maxHeartbeats 4000000 in
set_option maxRecDepth 100000 in
theorem tX11_leastOf {l : Launch} {D : va_G} {cA : Nat → ClassId} {A : Nat → Nat} (hI : InjA cN A) {a1 : Int32} {m m' : Mm} {r : Int32} (h : fX11_leastOf a1 m = some (r, m')) : Met0 l yX11_leastOf cX11_leastOf 2 (some .int) { frames := 0, cells := 0, slots := 0, locals := 0 } cLay cN D cA A [.int a1] m (some (.int r)) m' := by
  refine met0_of (by decide) (Nat.le_of_ble_eq_true rfl) hI ?_
  intro p e s m0 below meth c ls X hinit hP hS hl
  generalize ([.int a1] : List Value).toArray = args at X ⊢
  have hl : lv_has ls 2 [(0, .int a1)] := hl
  have X : CX cLay cN D cA A p s m0 args meth c "BenchTowels" cX11_leastOf 2 (some .int) := X
  have hx := X.1
  have hb := X.2.1
  have hml := X.2.2.1
  have hown := X.2.2.2.1
  have hts := X.2.2.2.2.1
  have hF := X.2.2.2.2.2.2.2.2.1
  rewrite [fX11_leastOf] at h
  refine lv_iconst (v := 0) hx hb dX11_leastOf_0 (by decide) ?_
  refine lv_istore_n (lv' := [(1, .int 0), (0, .int a1)]) hx hb dX11_leastOf_1 rfl hl (by decide) rfl (fun ls hl => ?_)
  exact tX11_leastOf_2 hI    X FL a1 0 m _ _ _  h hP hS (lv_sub hl [1, 0] rfl)

def fX1_settle_13 (i : Nat) : Nat → Int32 → Int32 → Int32 → Int32 → Mm → Option (Int32 × Mm)
  | 0, _, _, _, _, _ => none
  | n + 1, x1, x2, x3, x4, m => (if ((m (gp i 0) 7) : Int32) ≤ x4 then some (0, m) else gx x2 6 (lt (up m (gp i 12) (ix x2) ((1 : Int32) <<< (x4 &&& 31))) fun m_8 => (if ((x3 >>> (x4 &&& 31)) &&& 1) = 1 then bd (fX1_eachHasOne i x1 m_8) fun r_13 m_14 => (if r_13 = 0 then lt ((x4 : Int32) + 1) fun x4_17 => (fX1_settle_13 i n x1 x2 x3 x4_17 m_14) else some (0, m_14)) else lt ((x4 : Int32) + 1) fun x4_11 => (fX1_settle_13 i n x1 x2 x3 x4_11 m_8))))
set_option maxHeartbeats 4000000 in
set_option maxRecDepth 100000 in
theorem tX1_settle_13 (hI : InjA cN A) {i : Nat} (hi : i < 8) {r : Int32} {m' : Mm} (X : CX cLay cN D cA A p s m0 args meth c "BenchTowels$Gym" cX1_settle 5 none) : ∀ (n : Nat) (x1 : Int32) (x2 : Int32) (x3 : Int32) (x4 : Int32) (m : Mm) (H : Heap) (locs : List Loc) (ls : Array Slot), fX1_settle_13 i n x1 x2 x3 x4 m = some (r, m') → va_P D vwCl (wsOf cLay cN cA A m) H → va_S (AW cN A) s.heap H locs → lv_has ls 5 [(0, .ref (A (gp i 0))), (1, .int x1), (2, .int x2), (3, .int x3), (4, .int x4)] → W p l e { frames := 2, cells := 0, slots := 0, locals := 45 } s m0 args below meth c H locs 0 0 (ZR below args s cLay cN D cA A none m') (F0 m0 13 ls []) := by
  have hx := X.1
  have hb := X.2.1
  have hml := X.2.2.1
  have hown := X.2.2.2.1
  have hts := X.2.2.2.2.1
  have hF := X.2.2.2.2.2.2.2.2.1
  intro n
  induction n with
  | zero =>
    intro x1 x2 x3 x4 m H locs ls h hP hS hl
    exact absurd h (by rewrite [fX1_settle_13]; exact fun q => by cases q)
  | succ n ih =>
    intro x1 x2 x3 x4 m H locs ls h hP hS hl
    rewrite [fX1_settle_13] at h
    refine lv_iload hx hb dX1_settle_13 (lv_at hl 4 rfl) ?_
    refine lv_aload_n hx hb dX1_settle_15 rfl (lv_at hl 0 rfl) ?_
    refine r_get kc_1 7 X hP (lt_g hi (by decide)) (L_gym hi _) (by decide) rfl wt_1_185 dX1_settle_16 ?_
    refine lv_icmp_ge (tgt := 57) hx hb dX1_settle_19 (by decide) (fun c_6 => ?_) (fun c_6 => ?_)
    · have h := ifp c_6 h
      exact r_vret X hP hS dX1_settle_57 h
    · have h := ifn c_6 h
      refine lv_aload_n hx hb dX1_settle_22 rfl (lv_at hl 0 rfl) ?_
      refine r_get kc_1 12 X hP (lt_g hi (by decide)) (L_gym hi _) (by decide) rfl wt_1_196 dX1_settle_23 ?_
      refine lv_iload_n hx hb dX1_settle_26 rfl (lv_at hl 2 rfl) ?_
      refine lv_iconst (v := 1) hx hb dX1_settle_27 (by decide) ?_
      refine lv_iload hx hb dX1_settle_28 (lv_at hl 4 rfl) ?_
      refine lv_ishl hx hb dX1_settle_30 ?_
      obtain ⟨hin_7, h⟩ := gx_some h
      obtain ⟨m_8, em_9, h⟩ := lt_some h
      refine r_iast X hP hS (lt_g hi (by decide)) (La_g_12 hi) hin_7 rfl dX1_settle_31 em_9 (fun H locs hP hS => ?_)
      refine lv_iload_n hx hb dX1_settle_32 rfl (lv_at hl 3 rfl) ?_
      refine lv_iload hx hb dX1_settle_33 (lv_at hl 4 rfl) ?_
      refine lv_ishr hx hb dX1_settle_35 ?_
      refine lv_iconst (v := 1) hx hb dX1_settle_36 (by decide) ?_
      refine lv_iand hx hb dX1_settle_37 ?_
      refine lv_iconst (v := 1) hx hb dX1_settle_38 (by decide) ?_
      refine lv_icmp_ne (tgt := 51) hx hb dX1_settle_39 (by decide) (fun c_10 => ?_) (fun c_10 => ?_)
      · have h := ifn c_10 h
        obtain ⟨x4_11, ex_12, h⟩ := lt_some h
        refine lv_iinc (v := x4_11) (lv' := [(4, .int x4_11), (0, .ref (A (gp i 0))), (1, .int x1), (2, .int x2), (3, .int x3)]) hx hb dX1_settle_51 hl (k := 4) rfl (by rw [ex_12]; rfl) (by decide) rfl (fun ls hl => ?_)
        refine lv_goto (tgt := 13) hx hb dX1_settle_54 (by decide) ?_
        exact ih x1 x2 x3 x4_11 m_8 _ _ _  h hP hS (lv_sub hl [1, 2, 3, 4, 0] rfl)
      · have h := ifp c_10 h
        refine lv_aload_n hx hb dX1_settle_42 rfl (lv_at hl 0 rfl) ?_
        refine lv_iload_n hx hb dX1_settle_43 rfl (lv_at hl 1 rfl) ?_
        obtain ⟨r_13, m_14, hc_15, h⟩ := bd_some h
        refine c_V (rest := []) X hP hS (tX1_eachHasOne hI hi hc_15) (lt_g hi (by decide)) (L_gym hi _) rfl wt_4_50 wt_4_51 wt_4_52 wt_1_10 wt_4_53 ⟨rfl, hy_X1_eachHasOne⟩ ⟨rfl, rfl⟩ ⟨Nat.le_of_ble_eq_true rfl, Nat.le_of_ble_eq_true rfl⟩ rfl hl.1 rfl (Nat.le_of_ble_eq_true rfl) dX1_settle_44 rfl (fun H locs hP hS => ?_)
        refine lv_if_eq (tgt := 51) hx hb dX1_settle_47 (by decide) (fun c_16 => ?_) (fun c_16 => ?_)
        · have h := ifp c_16 h
          obtain ⟨x4_17, ex_18, h⟩ := lt_some h
          refine lv_iinc (v := x4_17) (lv' := [(4, .int x4_17), (0, .ref (A (gp i 0))), (1, .int x1), (2, .int x2), (3, .int x3)]) hx hb dX1_settle_51 hl (k := 4) rfl (by rw [ex_18]; rfl) (by decide) rfl (fun ls hl => ?_)
          refine lv_goto (tgt := 13) hx hb dX1_settle_54 (by decide) ?_
          exact ih x1 x2 x3 x4_17 m_14 _ _ _  h hP hS (lv_sub hl [1, 2, 3, 4, 0] rfl)
        · have h := ifn c_16 h
          exact r_vret X hP hS dX1_settle_50 h

def fX1_settle (i : Nat) (a1 : Int32) (a2 : Int32) (m : Mm) : Option (Int32 × Mm) := gx a2 6 (lt (m (gp i 12) (ix a2)) fun x3_2 => lt (m (gp i 0) 6) fun x4_4 => (fX1_settle_13 i FL a1 a2 x3_2 x4_4 m))
set_option maxHeartbeats 4000000 in
set_option maxRecDepth 100000 in
theorem tX1_settle {l : Launch} {D : va_G} {cA : Nat → ClassId} {A : Nat → Nat} (hI : InjA cN A) {i : Nat} (hi : i < 8) {a1 : Int32} {a2 : Int32} {m m' : Mm} {r : Int32} (h : fX1_settle i a1 a2 m = some (r, m')) : Met0 l yX1_settle cX1_settle 5 none { frames := 2, cells := 0, slots := 0, locals := 45 } cLay cN D cA A [.ref (A (gp i 0)), .int a1, .int a2] m none m' := by
  refine met0_of (by decide) (Nat.le_of_ble_eq_true rfl) hI ?_
  intro p e s m0 below meth c ls X hinit hP hS hl
  generalize ([.ref (A (gp i 0)), .int a1, .int a2] : List Value).toArray = args at X ⊢
  have hl : lv_has ls 5 [(0, .ref (A (gp i 0))), (1, .int a1), (2, .int a2)] := hl
  have X : CX cLay cN D cA A p s m0 args meth c "BenchTowels$Gym" cX1_settle 5 none := X
  have hx := X.1
  have hb := X.2.1
  have hml := X.2.2.1
  have hown := X.2.2.2.1
  have hts := X.2.2.2.2.1
  have hF := X.2.2.2.2.2.2.2.2.1
  rewrite [fX1_settle] at h
  refine lv_aload_n hx hb dX1_settle_0 rfl (lv_at hl 0 rfl) ?_
  refine r_get kc_1 12 X hP (lt_g hi (by decide)) (L_gym hi _) (by decide) rfl wt_1_196 dX1_settle_1 ?_
  refine lv_iload_n hx hb dX1_settle_4 rfl (lv_at hl 2 rfl) ?_
  obtain ⟨hin_1, h⟩ := gx_some h
  refine r_iald X hP (lt_g hi (by decide)) ((La_g_12 hi) _) hin_1 rfl dX1_settle_5 ?_
  obtain ⟨x3_2, ex_3, h⟩ := lt_some h
  refine lv_ren ex_3 ?_
  refine lv_istore_n (lv' := [(3, .int x3_2), (0, .ref (A (gp i 0))), (1, .int a1), (2, .int a2)]) hx hb dX1_settle_6 rfl hl (by decide) rfl (fun ls hl => ?_)
  refine lv_aload_n hx hb dX1_settle_7 rfl (lv_at hl 1 rfl) ?_
  refine r_get kc_1 6 X hP (lt_g hi (by decide)) (L_gym hi _) (by decide) rfl wt_1_184 dX1_settle_8 ?_
  obtain ⟨x4_4, ex_5, h⟩ := lt_some h
  refine lv_ren ex_5 ?_
  refine lv_istore (lv' := [(4, .int x4_4), (3, .int x3_2), (0, .ref (A (gp i 0))), (1, .int a1), (2, .int a2)]) hx hb dX1_settle_11 hl (by decide) rfl (fun ls hl => ?_)
  exact tX1_settle_13 hI hi   X FL a1 a2 x3_2 x4_4 m _ _ _  h hP hS (lv_sub hl [2, 3, 4, 1, 0] rfl)

def fX1_firstRow_8 (i : Nat) : Nat → Int32 → Int32 → Int32 → Mm → Option (Int32 × Mm)
  | 0, _, _, _, _ => none
  | n + 1, x1, x3, x4, m => (if (x3 : Int32) < x4 then gx x3 6 (bd (fX11_leastOf (m (gp i 12) (ix x3)) m) fun r_6 m_7 => some (r_6, m_7)) else (if ((x1 >>> (x4 &&& 31)) &&& 1) = 1 then bd (fX1_settle i x1 x4 m) fun r_12 m_13 => lt ((x4 : Int32) + 1) fun x4_15 => (fX1_firstRow_8 i n x1 x3 x4_15 m_13) else lt ((x4 : Int32) + 1) fun x4_10 => (fX1_firstRow_8 i n x1 x3 x4_10 m)))
set_option maxHeartbeats 4000000 in
set_option maxRecDepth 100000 in
theorem tX1_firstRow_8 (hI : InjA cN A) {i : Nat} (hi : i < 8) {r : Int32} {m' : Mm} (X : CX cLay cN D cA A p s m0 args meth c "BenchTowels$Gym" cX1_firstRow 5 (some .int)) : ∀ (n : Nat) (x1 : Int32) (x3 : Int32) (x4 : Int32) (m : Mm) (H : Heap) (locs : List Loc) (ls : Array Slot), fX1_firstRow_8 i n x1 x3 x4 m = some (r, m') → va_P D vwCl (wsOf cLay cN cA A m) H → va_S (AW cN A) s.heap H locs → lv_has ls 5 [(0, .ref (A (gp i 0))), (1, .int x1), (3, .int x3), (4, .int x4)] → W p l e { frames := 5, cells := 0, slots := 0, locals := 110 } s m0 args below meth c H locs 0 0 (ZR below args s cLay cN D cA A (some (.int r)) m') (F0 m0 8 ls []) := by
  have hx := X.1
  have hb := X.2.1
  have hml := X.2.2.1
  have hown := X.2.2.2.1
  have hts := X.2.2.2.2.1
  have hF := X.2.2.2.2.2.2.2.2.1
  intro n
  induction n with
  | zero =>
    intro x1 x3 x4 m H locs ls h hP hS hl
    exact absurd h (by rewrite [fX1_firstRow_8]; exact fun q => by cases q)
  | succ n ih =>
    intro x1 x3 x4 m H locs ls h hP hS hl
    rewrite [fX1_firstRow_8] at h
    refine lv_iload hx hb dX1_firstRow_8 (lv_at hl 3 rfl) ?_
    refine lv_iload_n hx hb dX1_firstRow_10 rfl (lv_at hl 2 rfl) ?_
    refine lv_icmp_gt (tgt := 37) hx hb dX1_firstRow_11 (by decide) (fun c_4 => ?_) (fun c_4 => ?_)
    · have h := ifp c_4 h
      refine lv_aload_n hx hb dX1_firstRow_37 rfl (lv_at hl 0 rfl) ?_
      refine r_get kc_1 12 X hP (lt_g hi (by decide)) (L_gym hi _) (by decide) rfl wt_1_196 dX1_firstRow_38 ?_
      refine lv_iload_n hx hb dX1_firstRow_41 rfl (lv_at hl 2 rfl) ?_
      obtain ⟨hin_5, h⟩ := gx_some h
      refine r_iald X hP (lt_g hi (by decide)) ((La_g_12 hi) _) hin_5 rfl dX1_firstRow_42 ?_
      obtain ⟨r_6, m_7, hc_8, h⟩ := bd_some h
      refine c_SN (rest := []) X hP hS (tX11_leastOf hI  hc_8) hF.2.2.2.2.1.2 wt_4_77 wt_1_1 wt_4_78 hy_X11_leastOf ⟨rfl, rfl⟩ ⟨Nat.le_of_ble_eq_true rfl, Nat.le_of_ble_eq_true rfl⟩ rfl hl.1 rfl (Nat.le_of_ble_eq_true rfl) dX1_firstRow_43 rfl (fun H locs hP hS => ?_)
      exact r_iret X hP hS dX1_firstRow_46 h
    · have h := ifn c_4 h
      refine lv_iload_n hx hb dX1_firstRow_14 rfl (lv_at hl 1 rfl) ?_
      refine lv_iload hx hb dX1_firstRow_15 (lv_at hl 3 rfl) ?_
      refine lv_ishr hx hb dX1_firstRow_17 ?_
      refine lv_iconst (v := 1) hx hb dX1_firstRow_18 (by decide) ?_
      refine lv_iand hx hb dX1_firstRow_19 ?_
      refine lv_iconst (v := 1) hx hb dX1_firstRow_20 (by decide) ?_
      refine lv_icmp_ne (tgt := 31) hx hb dX1_firstRow_21 (by decide) (fun c_9 => ?_) (fun c_9 => ?_)
      · have h := ifn c_9 h
        obtain ⟨x4_10, ex_11, h⟩ := lt_some h
        refine lv_iinc (v := x4_10) (lv' := [(4, .int x4_10), (0, .ref (A (gp i 0))), (1, .int x1), (3, .int x3)]) hx hb dX1_firstRow_31 hl (k := 3) rfl (by rw [ex_11]; rfl) (by decide) rfl (fun ls hl => ?_)
        refine lv_goto (tgt := 8) hx hb dX1_firstRow_34 (by decide) ?_
        exact ih x1 x3 x4_10 m _ _ _  h hP hS (lv_sub hl [1, 2, 3, 0] rfl)
      · have h := ifp c_9 h
        refine lv_aload_n hx hb dX1_firstRow_24 rfl (lv_at hl 0 rfl) ?_
        refine lv_iload_n hx hb dX1_firstRow_25 rfl (lv_at hl 1 rfl) ?_
        refine lv_iload hx hb dX1_firstRow_26 (lv_at hl 3 rfl) ?_
        obtain ⟨r_12, m_13, hc_14, h⟩ := bd_some h
        refine c_V (rest := []) X hP hS (tX1_settle hI hi hc_14) (lt_g hi (by decide)) (L_gym hi _) rfl wt_4_72 wt_4_73 wt_4_74 wt_1_10 wt_4_75 ⟨rfl, hy_X1_settle⟩ ⟨rfl, rfl⟩ ⟨Nat.le_of_ble_eq_true rfl, Nat.le_of_ble_eq_true rfl⟩ rfl hl.1 rfl (Nat.le_of_ble_eq_true rfl) dX1_firstRow_28 rfl (fun H locs hP hS => ?_)
        obtain ⟨x4_15, ex_16, h⟩ := lt_some h
        refine lv_iinc (v := x4_15) (lv' := [(4, .int x4_15), (0, .ref (A (gp i 0))), (1, .int x1), (3, .int x3)]) hx hb dX1_firstRow_31 hl (k := 3) rfl (by rw [ex_16]; rfl) (by decide) rfl (fun ls hl => ?_)
        refine lv_goto (tgt := 8) hx hb dX1_firstRow_34 (by decide) ?_
        exact ih x1 x3 x4_15 m_13 _ _ _  h hP hS (lv_sub hl [1, 2, 3, 0] rfl)

def fX1_firstRow (i : Nat) (a1 : Int32) (a2 : Int32) (a3 : Int32) (m : Mm) : Option (Int32 × Mm) := bd (fX1_openUntil i a2 m) fun r_1 m_2 => (fX1_firstRow_8 i FL a1 a3 0 m_2)
set_option maxHeartbeats 4000000 in
set_option maxRecDepth 100000 in
theorem tX1_firstRow {l : Launch} {D : va_G} {cA : Nat → ClassId} {A : Nat → Nat} (hI : InjA cN A) {i : Nat} (hi : i < 8) {a1 : Int32} {a2 : Int32} {a3 : Int32} {m m' : Mm} {r : Int32} (h : fX1_firstRow i a1 a2 a3 m = some (r, m')) : Met0 l yX1_firstRow cX1_firstRow 5 (some .int) { frames := 5, cells := 0, slots := 0, locals := 110 } cLay cN D cA A [.ref (A (gp i 0)), .int a1, .int a2, .int a3] m (some (.int r)) m' := by
  refine met0_of (by decide) (Nat.le_of_ble_eq_true rfl) hI ?_
  intro p e s m0 below meth c ls X hinit hP hS hl
  generalize ([.ref (A (gp i 0)), .int a1, .int a2, .int a3] : List Value).toArray = args at X ⊢
  have hl : lv_has ls 5 [(0, .ref (A (gp i 0))), (1, .int a1), (2, .int a2), (3, .int a3)] := hl
  have X : CX cLay cN D cA A p s m0 args meth c "BenchTowels$Gym" cX1_firstRow 5 (some .int) := X
  have hx := X.1
  have hb := X.2.1
  have hml := X.2.2.1
  have hown := X.2.2.2.1
  have hts := X.2.2.2.2.1
  have hF := X.2.2.2.2.2.2.2.2.1
  rewrite [fX1_firstRow] at h
  refine lv_aload_n hx hb dX1_firstRow_0 rfl (lv_at hl 0 rfl) ?_
  refine lv_iload_n hx hb dX1_firstRow_1 rfl (lv_at hl 2 rfl) ?_
  obtain ⟨r_1, m_2, hc_3, h⟩ := bd_some h
  refine c_V (rest := []) X hP hS (tX1_openUntil hI hi hc_3) (lt_g hi (by decide)) (L_gym hi _) rfl wt_4_46 wt_4_47 wt_4_48 wt_1_10 wt_4_49 ⟨rfl, hy_X1_openUntil⟩ ⟨rfl, rfl⟩ ⟨Nat.le_of_ble_eq_true rfl, Nat.le_of_ble_eq_true rfl⟩ rfl hl.1 rfl (Nat.le_of_ble_eq_true rfl) dX1_firstRow_2 rfl (fun H locs hP hS => ?_)
  refine lv_iconst (v := 0) hx hb dX1_firstRow_5 (by decide) ?_
  refine lv_istore (lv' := [(4, .int 0), (0, .ref (A (gp i 0))), (1, .int a1), (2, .int a2), (3, .int a3)]) hx hb dX1_firstRow_6 hl (by decide) rfl (fun ls hl => ?_)
  exact tX1_firstRow_8 hI hi   X FL a1 a3 0 m_2 _ _ _  h hP hS (lv_sub hl [1, 2, 4, 0] rfl)

def fX7_begin_19 (j : Nat) : Nat → Int32 → Mm → Option (Int32 × Mm)
  | 0, _, _ => none
  | n + 1, x3, m => (if ((m 64 2) : Int32) < x3 then some (0, m) else gx x3 5 (bd (fX1_copy (3 + (ix x3)) j m) fun r_6 m_7 => lt ((x3 : Int32) + 1) fun x3_9 => (fX7_begin_19 j n x3_9 m_7)))
set_option maxHeartbeats 4000000 in
set_option maxRecDepth 100000 in
theorem tX7_begin_19 (hI : InjA cN A) {j : Nat} (hj : j < 8) {r : Int32} {m' : Mm} (X : CX cLay cN D cA A p s m0 args meth c "BenchTowels$Plans" cX7_begin 4 none) : ∀ (n : Nat) (x3 : Int32) (m : Mm) (H : Heap) (locs : List Loc) (ls : Array Slot), fX7_begin_19 j n x3 m = some (r, m') → va_P D vwCl (wsOf cLay cN cA A m) H → va_S (AW cN A) s.heap H locs → lv_has ls 4 [(0, .ref (A 64)), (1, .ref (A (gp j 0))), (3, .int x3)] → W p l e { frames := 3, cells := 0, slots := 0, locals := 103 } s m0 args below meth c H locs 0 0 (ZR below args s cLay cN D cA A none m') (F0 m0 19 ls []) := by
  have hx := X.1
  have hb := X.2.1
  have hml := X.2.2.1
  have hown := X.2.2.2.1
  have hts := X.2.2.2.2.1
  have hF := X.2.2.2.2.2.2.2.2.1
  intro n
  induction n with
  | zero =>
    intro x3 m H locs ls h hP hS hl
    exact absurd h (by rewrite [fX7_begin_19]; exact fun q => by cases q)
  | succ n ih =>
    intro x3 m H locs ls h hP hS hl
    rewrite [fX7_begin_19] at h
    refine lv_iload_n hx hb dX7_begin_19 rfl (lv_at hl 2 rfl) ?_
    refine lv_aload_n hx hb dX7_begin_20 rfl (lv_at hl 0 rfl) ?_
    refine r_get kc_7 2 X hP (by decide) (L_plans _) (by decide) rfl wt_1_235 dX7_begin_21 ?_
    refine lv_icmp_gt (tgt := 43) hx hb dX7_begin_24 (by decide) (fun c_3 => ?_) (fun c_3 => ?_)
    · have h := ifp c_3 h
      exact r_vret X hP hS dX7_begin_43 h
    · have h := ifn c_3 h
      refine lv_aload_n hx hb dX7_begin_27 rfl (lv_at hl 0 rfl) ?_
      refine r_get kc_7 0 X hP (by decide) (L_plans _) (by decide) rfl wt_1_233 dX7_begin_28 ?_
      refine lv_iload_n hx hb dX7_begin_31 rfl (lv_at hl 2 rfl) ?_
      obtain ⟨hin_4, h⟩ := gx_some h
      have q_5 := vp_lt hin_4
      refine r_rowq 4 (q' := (gp (3 + (ix x3)) 0)) rfl X hP (by decide) (Lq_65 _) hin_4 rfl q_5 rfl dX7_begin_32 ?_
      refine lv_aload_n hx hb dX7_begin_33 rfl (lv_at hl 1 rfl) ?_
      obtain ⟨r_6, m_7, hc_8, h⟩ := bd_some h
      refine c_V (rest := []) X hP hS (tX1_copy hI (lt_3 q_5) hj hc_8) (lt_g (lt_3 q_5) (by decide)) (L_gym (lt_3 q_5) _) rfl wt_4_104 wt_4_3 wt_4_4 wt_1_10 wt_4_5 ⟨rfl, hy_X1_copy⟩ ⟨rfl, rfl⟩ ⟨Nat.le_of_ble_eq_true rfl, Nat.le_of_ble_eq_true rfl⟩ rfl hl.1 rfl (Nat.le_of_ble_eq_true rfl) dX7_begin_34 rfl (fun H locs hP hS => ?_)
      obtain ⟨x3_9, ex_10, h⟩ := lt_some h
      refine lv_iinc (v := x3_9) (lv' := [(3, .int x3_9), (0, .ref (A 64)), (1, .ref (A (gp j 0)))]) hx hb dX7_begin_37 hl (k := 2) rfl (by rw [ex_10]; rfl) (by decide) rfl (fun ls hl => ?_)
      refine lv_goto (tgt := 19) hx hb dX7_begin_40 (by decide) ?_
      exact ih x3_9 m_7 _ _ _  h hP hS (lv_sub hl [1, 2, 0] rfl)

def fX7_begin (j : Nat) (a2 : Int32) (m : Mm) : Option (Int32 × Mm) := lt (up m 64 2 (if ((m (gp j 0) 7) - (m (gp j 0) 6)) < a2 then ((m (gp j 0) 7) - (m (gp j 0) 6)) else a2)) fun m_1 => (fX7_begin_19 j FL 0 m_1)
set_option maxHeartbeats 4000000 in
set_option maxRecDepth 100000 in
theorem tX7_begin {l : Launch} {D : va_G} {cA : Nat → ClassId} {A : Nat → Nat} (hI : InjA cN A) {j : Nat} (hj : j < 8) {a2 : Int32} {m m' : Mm} {r : Int32} (h : fX7_begin j a2 m = some (r, m')) : Met0 l yX7_begin cX7_begin 4 none { frames := 3, cells := 0, slots := 0, locals := 103 } cLay cN D cA A [.ref (A 64), .ref (A (gp j 0)), .int a2] m none m' := by
  refine met0_of (by decide) (Nat.le_of_ble_eq_true rfl) hI ?_
  intro p e s m0 below meth c ls X hinit hP hS hl
  generalize ([.ref (A 64), .ref (A (gp j 0)), .int a2] : List Value).toArray = args at X ⊢
  have hl : lv_has ls 4 [(0, .ref (A 64)), (1, .ref (A (gp j 0))), (2, .int a2)] := hl
  have X : CX cLay cN D cA A p s m0 args meth c "BenchTowels$Plans" cX7_begin 4 none := X
  have hx := X.1
  have hb := X.2.1
  have hml := X.2.2.1
  have hown := X.2.2.2.1
  have hts := X.2.2.2.2.1
  have hF := X.2.2.2.2.2.2.2.2.1
  rewrite [fX7_begin] at h
  refine lv_aload_n hx hb dX7_begin_0 rfl (lv_at hl 0 rfl) ?_
  refine lv_iload_n hx hb dX7_begin_1 rfl (lv_at hl 2 rfl) ?_
  refine lv_aload_n hx hb dX7_begin_2 rfl (lv_at hl 1 rfl) ?_
  refine r_get kc_1 7 X hP (lt_g hj (by decide)) (L_gym hj _) (by decide) rfl wt_1_186 dX7_begin_3 ?_
  refine lv_aload_n hx hb dX7_begin_6 rfl (lv_at hl 1 rfl) ?_
  refine r_get kc_1 6 X hP (lt_g hj (by decide)) (L_gym hj _) (by decide) rfl wt_1_182 dX7_begin_7 ?_
  refine lv_isub hx hb dX7_begin_10 ?_
  refine va_mmin (rest := [.ref (A 64)]) hx hb (hml.trans hl.1.symm) hown (hts _ wt_4_103) (hts _ wt_3_236) (hts _ wt_1_19) (hts _ wt_3_237) (Nat.le_of_ble_eq_true rfl) (Nat.le_of_ble_eq_true rfl) (Nat.zero_le _) (Nat.zero_le _) dX7_begin_11 ?_
  obtain ⟨m_1, em_2, h⟩ := lt_some h
  refine r_put kc_7 2 X hP hS (by decide) (L_plans _) (L_plans _) (by decide) wt_1_235 rfl (by decide +kernel) (Nat.le_of_ble_eq_true rfl) dX7_begin_14 em_2 (fun H locs hP hS => ?_)
  refine lv_iconst (v := 0) hx hb dX7_begin_17 (by decide) ?_
  refine lv_istore_n (lv' := [(3, .int 0), (0, .ref (A 64)), (1, .ref (A (gp j 0))), (2, .int a2)]) hx hb dX7_begin_18 rfl hl (by decide) rfl (fun ls hl => ?_)
  exact tX7_begin_19 hI hj   X FL 0 m_1 _ _ _  h hP hS (lv_sub hl [1, 2, 0] rfl)

def fX7_weigh_73  : Nat → Int32 → Mm → Option (Int32 × Mm)
  | 0, _, _ => none
  | n + 1, x4, m => (if ((m 64 5) : Int32) ≤ x4 then some (0, m) else gx x4 4 (lt (up m 67 (ix x4) (m 66 (ix x4))) fun m_12 => lt ((x4 : Int32) + 1) fun x4_14 => (fX7_weigh_73 n x4_14 m_12)))
set_option maxHeartbeats 4000000 in
set_option maxRecDepth 100000 in
theorem tX7_weigh_73 (hI : InjA cN A)  {r : Int32} {m' : Mm} (X : CX cLay cN D cA A p s m0 args meth c "BenchTowels$Plans" cX7_weigh 5 none) : ∀ (n : Nat) (x4 : Int32) (m : Mm) (H : Heap) (locs : List Loc) (ls : Array Slot), fX7_weigh_73 n x4 m = some (r, m') → va_P D vwCl (wsOf cLay cN cA A m) H → va_S (AW cN A) s.heap H locs → lv_has ls 5 [(0, .ref (A 64)), (4, .int x4)] → W p l e { frames := 1, cells := 0, slots := 0, locals := 40 } s m0 args below meth c H locs 0 0 (ZR below args s cLay cN D cA A none m') (F0 m0 73 ls []) := by
  have hx := X.1
  have hb := X.2.1
  have hml := X.2.2.1
  have hown := X.2.2.2.1
  have hts := X.2.2.2.2.1
  have hF := X.2.2.2.2.2.2.2.2.1
  intro n
  induction n with
  | zero =>
    intro x4 m H locs ls h hP hS hl
    exact absurd h (by rewrite [fX7_weigh_73]; exact fun q => by cases q)
  | succ n ih =>
    intro x4 m H locs ls h hP hS hl
    rewrite [fX7_weigh_73] at h
    refine lv_iload hx hb dX7_weigh_73 (lv_at hl 1 rfl) ?_
    refine lv_aload_n hx hb dX7_weigh_75 rfl (lv_at hl 0 rfl) ?_
    refine r_get kc_7 5 X hP (by decide) (L_plans _) (by decide) rfl wt_1_239 dX7_weigh_76 ?_
    refine lv_icmp_ge (tgt := 102) hx hb dX7_weigh_79 (by decide) (fun c_10 => ?_) (fun c_10 => ?_)
    · have h := ifp c_10 h
      exact r_vret X hP hS dX7_weigh_102 h
    · have h := ifn c_10 h
      refine lv_aload_n hx hb dX7_weigh_82 rfl (lv_at hl 0 rfl) ?_
      refine r_get kc_7 4 X hP (by decide) (L_plans _) (by decide) rfl wt_1_237 dX7_weigh_83 ?_
      refine lv_iload hx hb dX7_weigh_86 (lv_at hl 1 rfl) ?_
      refine lv_aload_n hx hb dX7_weigh_88 rfl (lv_at hl 0 rfl) ?_
      refine r_get kc_7 1 X hP (by decide) (L_plans _) (by decide) rfl wt_1_234 dX7_weigh_89 ?_
      refine lv_iload hx hb dX7_weigh_92 (lv_at hl 1 rfl) ?_
      obtain ⟨hin_11, h⟩ := gx_some h
      refine r_iald X hP (by decide) (La_66 _) hin_11 rfl dX7_weigh_94 ?_
      obtain ⟨m_12, em_13, h⟩ := lt_some h
      refine r_iast X hP hS (by decide) La_67 hin_11 rfl dX7_weigh_95 em_13 (fun H locs hP hS => ?_)
      obtain ⟨x4_14, ex_15, h⟩ := lt_some h
      refine lv_iinc (v := x4_14) (lv' := [(4, .int x4_14), (0, .ref (A 64))]) hx hb dX7_weigh_96 hl (k := 1) rfl (by rw [ex_15]; rfl) (by decide) rfl (fun ls hl => ?_)
      refine lv_goto (tgt := 73) hx hb dX7_weigh_99 (by decide) ?_
      exact ih x4_14 m_12 _ _ _  h hP hS (lv_sub hl [1, 0] rfl)

def fX7_weigh_51  (x1 : Int32) (m : Mm) : Option (Int32 × Mm) := (if ((m 64 6) : Int32) < x1 then lt (up m 64 6 x1) fun m_6 => lt (up m_6 64 7 1) fun m_8 => (fX7_weigh_73  FL 0 m_8) else some (0, m))
set_option maxHeartbeats 4000000 in
set_option maxRecDepth 100000 in
theorem tX7_weigh_51 (hI : InjA cN A)  {r : Int32} {m' : Mm} (X : CX cLay cN D cA A p s m0 args meth c "BenchTowels$Plans" cX7_weigh 5 none) : ∀ (x1 : Int32) (m : Mm) (H : Heap) (locs : List Loc) (ls : Array Slot), fX7_weigh_51 x1 m = some (r, m') → va_P D vwCl (wsOf cLay cN cA A m) H → va_S (AW cN A) s.heap H locs → lv_has ls 5 [(0, .ref (A 64)), (1, .int x1)] → W p l e { frames := 1, cells := 0, slots := 0, locals := 40 } s m0 args below meth c H locs 0 0 (ZR below args s cLay cN D cA A none m') (F0 m0 51 ls []) := by
  have hx := X.1
  have hb := X.2.1
  have hml := X.2.2.1
  have hown := X.2.2.2.1
  have hts := X.2.2.2.2.1
  have hF := X.2.2.2.2.2.2.2.2.1
  intro x1 m H locs ls h hP hS hl
  rewrite [fX7_weigh_51] at h
  refine lv_iload_n hx hb dX7_weigh_51 rfl (lv_at hl 1 rfl) ?_
  refine lv_aload_n hx hb dX7_weigh_52 rfl (lv_at hl 0 rfl) ?_
  refine r_get kc_7 6 X hP (by decide) (L_plans _) (by decide) rfl wt_2_1 dX7_weigh_53 ?_
  refine lv_icmp_gt (tgt := 60) hx hb dX7_weigh_56 (by decide) (fun c_5 => ?_) (fun c_5 => ?_)
  · have h := ifp c_5 h
    refine lv_aload_n hx hb dX7_weigh_60 rfl (lv_at hl 0 rfl) ?_
    refine lv_iload_n hx hb dX7_weigh_61 rfl (lv_at hl 1 rfl) ?_
    obtain ⟨m_6, em_7, h⟩ := lt_some h
    refine r_put kc_7 6 X hP hS (by decide) (L_plans _) (L_plans _) (by decide) wt_2_1 rfl (by decide +kernel) (Nat.le_of_ble_eq_true rfl) dX7_weigh_62 em_7 (fun H locs hP hS => ?_)
    refine lv_aload_n hx hb dX7_weigh_65 rfl (lv_at hl 0 rfl) ?_
    refine lv_iconst (v := 1) hx hb dX7_weigh_66 (by decide) ?_
    obtain ⟨m_8, em_9, h⟩ := lt_some h
    refine r_put kc_7 7 X hP hS (by decide) (L_plans _) (L_plans _) (by decide) wt_2_3 rfl (by decide +kernel) (Nat.le_of_ble_eq_true rfl) dX7_weigh_67 em_9 (fun H locs hP hS => ?_)
    refine lv_iconst (v := 0) hx hb dX7_weigh_70 (by decide) ?_
    refine lv_istore (lv' := [(4, .int 0), (0, .ref (A 64)), (1, .int x1)]) hx hb dX7_weigh_71 hl (by decide) rfl (fun ls hl => ?_)
    exact tX7_weigh_73 hI    X FL 0 m_8 _ _ _  h hP hS (lv_sub hl [1, 0] rfl)
  · have h := ifn c_5 h
    exact r_vret X hP hS dX7_weigh_59 h

def fX7_weigh_33  (x1 : Int32) (m : Mm) : Option (Int32 × Mm) := (if x1 = (m 64 6) then lt (up m 64 7 ((m 64 7) + 1)) fun m_16 => (fX7_weigh_51  x1 m_16) else fX7_weigh_51  x1 m)
set_option maxHeartbeats 4000000 in
set_option maxRecDepth 100000 in
theorem tX7_weigh_33 (hI : InjA cN A)  {r : Int32} {m' : Mm} (X : CX cLay cN D cA A p s m0 args meth c "BenchTowels$Plans" cX7_weigh 5 none) : ∀ (x1 : Int32) (m : Mm) (H : Heap) (locs : List Loc) (ls : Array Slot), fX7_weigh_33 x1 m = some (r, m') → va_P D vwCl (wsOf cLay cN cA A m) H → va_S (AW cN A) s.heap H locs → lv_has ls 5 [(0, .ref (A 64)), (1, .int x1)] → W p l e { frames := 1, cells := 0, slots := 0, locals := 40 } s m0 args below meth c H locs 0 0 (ZR below args s cLay cN D cA A none m') (F0 m0 33 ls []) := by
  have hx := X.1
  have hb := X.2.1
  have hml := X.2.2.1
  have hown := X.2.2.2.1
  have hts := X.2.2.2.2.1
  have hF := X.2.2.2.2.2.2.2.2.1
  intro x1 m H locs ls h hP hS hl
  rewrite [fX7_weigh_33] at h
  refine lv_iload_n hx hb dX7_weigh_33 rfl (lv_at hl 1 rfl) ?_
  refine lv_aload_n hx hb dX7_weigh_34 rfl (lv_at hl 0 rfl) ?_
  refine r_get kc_7 6 X hP (by decide) (L_plans _) (by decide) rfl wt_2_1 dX7_weigh_35 ?_
  refine lv_icmp_ne (tgt := 51) hx hb dX7_weigh_38 (by decide) (fun c_4 => ?_) (fun c_4 => ?_)
  · have h := ifn c_4 h
    exact tX7_weigh_51 hI    X x1 m _ _ _  h hP hS (lv_sub hl [0, 1] rfl)
  · have h := ifp c_4 h
    refine lv_aload_n hx hb dX7_weigh_41 rfl (lv_at hl 0 rfl) ?_
    refine lv_dup hx hb dX7_weigh_42 rfl ?_
    refine r_get kc_7 7 X hP (by decide) (L_plans _) (by decide) rfl wt_2_3 dX7_weigh_43 ?_
    refine lv_iconst (v := 1) hx hb dX7_weigh_46 (by decide) ?_
    refine lv_iadd hx hb dX7_weigh_47 ?_
    obtain ⟨m_16, em_17, h⟩ := lt_some h
    refine r_put kc_7 7 X hP hS (by decide) (L_plans _) (L_plans _) (by decide) wt_2_3 rfl (by decide +kernel) (Nat.le_of_ble_eq_true rfl) dX7_weigh_48 em_17 (fun H locs hP hS => ?_)
    exact tX7_weigh_51 hI    X x1 m_16 _ _ _  h hP hS (lv_sub hl [0, 1] rfl)

def fX7_weigh (a1 : Int32) (a2 : Int32) (a3 : Int32) (m : Mm) : Option (Int32 × Mm) := lt (up m 64 9 ((m 64 9) ||| a3)) fun m_1 => (if ((m_1 64 3) &&& (a3 ^^^ (-1))) = 0 then lt (up m_1 64 8 (if a2 < (m_1 64 8) then a2 else (m_1 64 8))) fun m_18 => (fX7_weigh_33  a1 m_18) else fX7_weigh_33  a1 m_1)
set_option maxHeartbeats 4000000 in
set_option maxRecDepth 100000 in
theorem tX7_weigh {l : Launch} {D : va_G} {cA : Nat → ClassId} {A : Nat → Nat} (hI : InjA cN A) {a1 : Int32} {a2 : Int32} {a3 : Int32} {m m' : Mm} {r : Int32} (h : fX7_weigh a1 a2 a3 m = some (r, m')) : Met0 l yX7_weigh cX7_weigh 5 none { frames := 1, cells := 0, slots := 0, locals := 40 } cLay cN D cA A [.ref (A 64), .int a1, .int a2, .int a3] m none m' := by
  refine met0_of (by decide) (Nat.le_of_ble_eq_true rfl) hI ?_
  intro p e s m0 below meth c ls X hinit hP hS hl
  generalize ([.ref (A 64), .int a1, .int a2, .int a3] : List Value).toArray = args at X ⊢
  have hl : lv_has ls 5 [(0, .ref (A 64)), (1, .int a1), (2, .int a2), (3, .int a3)] := hl
  have X : CX cLay cN D cA A p s m0 args meth c "BenchTowels$Plans" cX7_weigh 5 none := X
  have hx := X.1
  have hb := X.2.1
  have hml := X.2.2.1
  have hown := X.2.2.2.1
  have hts := X.2.2.2.2.1
  have hF := X.2.2.2.2.2.2.2.2.1
  rewrite [fX7_weigh] at h
  refine lv_aload_n hx hb dX7_weigh_0 rfl (lv_at hl 0 rfl) ?_
  refine lv_dup hx hb dX7_weigh_1 rfl ?_
  refine r_get kc_7 9 X hP (by decide) (L_plans _) (by decide) rfl wt_2_7 dX7_weigh_2 ?_
  refine lv_iload_n hx hb dX7_weigh_5 rfl (lv_at hl 3 rfl) ?_
  refine lv_ior hx hb dX7_weigh_6 ?_
  obtain ⟨m_1, em_2, h⟩ := lt_some h
  refine r_put kc_7 9 X hP hS (by decide) (L_plans _) (L_plans _) (by decide) wt_2_7 rfl (by decide +kernel) (Nat.le_of_ble_eq_true rfl) dX7_weigh_7 em_2 (fun H locs hP hS => ?_)
  refine lv_aload_n hx hb dX7_weigh_10 rfl (lv_at hl 0 rfl) ?_
  refine r_get kc_7 3 X hP (by decide) (L_plans _) (by decide) rfl wt_1_236 dX7_weigh_11 ?_
  refine lv_iload_n hx hb dX7_weigh_14 rfl (lv_at hl 3 rfl) ?_
  refine lv_iconst (v := (-1)) hx hb dX7_weigh_15 (by decide) ?_
  refine lv_ixor hx hb dX7_weigh_16 ?_
  refine lv_iand hx hb dX7_weigh_17 ?_
  refine lv_if_ne (tgt := 33) hx hb dX7_weigh_18 (by decide) (fun c_3 => ?_) (fun c_3 => ?_)
  · have h := ifn c_3 h
    exact tX7_weigh_33 hI    X a1 m_1 _ _ _  h hP hS (lv_sub hl [0, 1] rfl)
  · have h := ifp c_3 h
    refine lv_aload_n hx hb dX7_weigh_21 rfl (lv_at hl 0 rfl) ?_
    refine lv_aload_n hx hb dX7_weigh_22 rfl (lv_at hl 0 rfl) ?_
    refine r_get kc_7 8 X hP (by decide) (L_plans _) (by decide) rfl wt_2_5 dX7_weigh_23 ?_
    refine lv_iload_n hx hb dX7_weigh_26 rfl (lv_at hl 2 rfl) ?_
    refine va_mmin (rest := [.ref (A 64)]) hx hb (hml.trans hl.1.symm) hown (hts _ wt_4_103) (hts _ wt_3_236) (hts _ wt_1_19) (hts _ wt_3_237) (Nat.le_of_ble_eq_true rfl) (Nat.le_of_ble_eq_true rfl) (Nat.zero_le _) (Nat.zero_le _) dX7_weigh_27 ?_
    obtain ⟨m_18, em_19, h⟩ := lt_some h
    refine r_put kc_7 8 X hP hS (by decide) (L_plans _) (L_plans _) (by decide) wt_2_5 rfl (by decide +kernel) (Nat.le_of_ble_eq_true rfl) dX7_weigh_30 em_19 (fun H locs hP hS => ?_)
    exact tX7_weigh_33 hI    X a1 m_18 _ _ _  h hP hS (lv_sub hl [0, 1] rfl)

def fX7_walk_113 (rec : Int32 → Int32 → Int32 → Int32 → Mm → Option (Int32 × Mm)) (K30 : Int32 → Int32 → Int32 → Int32 → Nat → Int32 → Mm → Option (Int32 × Mm)) (x1 : Int32) (x2 : Int32) (x3 : Int32) (x4 : Int32) (y5 : Nat) (x6 : Int32) (x8 : Int32) (s0 : Int32) (s1 : Int32) (s2 : Int32) (m : Mm) : Option (Int32 × Mm) := bd (rec s2 s1 s0 x8 m) fun r_18 m_19 => lt ((x6 : Int32) + 1) fun x6_21 => (K30 x1 x2 x3 x4 y5 x6_21 m_19)
set_option maxHeartbeats 4000000 in
set_option maxRecDepth 100000 in
theorem tX7_walk_113 {Fr Lr : Nat} (hI : InjA cN A)  {rec : Int32 → Int32 → Int32 → Int32 → Mm → Option (Int32 × Mm)} (hrec : ∀ (a1 : Int32) (a2 : Int32) (a3 : Int32) (a4 : Int32) (m : Mm) (r : Int32) (m' : Mm), rec a1 a2 a3 a4 m = some (r, m') → Met0 l yX7_walk cX7_walk 9 none { frames := Fr, cells := 0, slots := 0, locals := Lr } cLay cN D cA A [.ref (A 64), .int a1, .int a2, .int a3, .int a4] m none m') {r : Int32} {m' : Mm} {K30 : Int32 → Int32 → Int32 → Int32 → Nat → Int32 → Mm → Option (Int32 × Mm)} (hK30 : ∀ (x1 : Int32) (x2 : Int32) (x3 : Int32) (x4 : Int32) (y5 : Nat) (x6 : Int32) (m : Mm) (H : Heap) (locs : List Loc) (ls : Array Slot), (hy5 : y5 < 8) → K30 x1 x2 x3 x4 y5 x6 m = some (r, m') → va_P D vwCl (wsOf cLay cN cA A m) H → va_S (AW cN A) s.heap H locs → lv_has ls 9 [(0, .ref (A 64)), (1, .int x1), (2, .int x2), (3, .int x3), (4, .int x4), (5, .ref (A (gp y5 0))), (6, .int x6)] → W p l e { frames := Fr + 5, cells := 0, slots := 0, locals := Lr + 120 } s m0 args below meth c H locs 0 0 (ZR below args s cLay cN D cA A none m') (F0 m0 30 ls [])) (X : CX cLay cN D cA A p s m0 args meth c "BenchTowels$Plans" cX7_walk 9 none) : ∀ (x1 : Int32) (x2 : Int32) (x3 : Int32) (x4 : Int32) (y5 : Nat) (x6 : Int32) (x8 : Int32) (s0 : Int32) (s1 : Int32) (s2 : Int32) (m : Mm) (H : Heap) (locs : List Loc) (ls : Array Slot), (hy5 : y5 < 8) → fX7_walk_113 rec K30 x1 x2 x3 x4 y5 x6 x8 s0 s1 s2 m = some (r, m') → va_P D vwCl (wsOf cLay cN cA A m) H → va_S (AW cN A) s.heap H locs → lv_has ls 9 [(0, .ref (A 64)), (1, .int x1), (2, .int x2), (3, .int x3), (4, .int x4), (5, .ref (A (gp y5 0))), (6, .int x6), (8, .int x8)] → W p l e { frames := Fr + 5, cells := 0, slots := 0, locals := Lr + 120 } s m0 args below meth c H locs 0 0 (ZR below args s cLay cN D cA A none m') (F0 m0 113 ls [.int s0, .int s1, .int s2, .ref (A 64)]) := by
  have hx := X.1
  have hb := X.2.1
  have hml := X.2.2.1
  have hown := X.2.2.2.1
  have hts := X.2.2.2.2.1
  have hF := X.2.2.2.2.2.2.2.2.1
  intro x1 x2 x3 x4 y5 x6 x8 s0 s1 s2 m H locs ls hy5 h hP hS hl
  rewrite [fX7_walk_113] at h
  refine lv_iload hx hb dX7_walk_113 (lv_at hl 7 rfl) ?_
  obtain ⟨r_18, m_19, hc_20, h⟩ := bd_some h
  refine c_V (rest := []) X hP hS (hrec s2 s1 s0 x8 _ _ _ hc_20) (by decide) (L_plans _) rfl wt_4_105 wt_4_107 ws_2_2 wt_1_11 wt_4_108 ⟨rfl, hy_X7_walk⟩ ⟨rfl, rfl⟩ ⟨by dsimp only; omega, by dsimp only; omega⟩ rfl hl.1 rfl (Nat.le_of_ble_eq_true rfl) dX7_walk_115 rfl (fun H locs hP hS => ?_)
  obtain ⟨x6_21, ex_22, h⟩ := lt_some h
  refine lv_iinc (v := x6_21) (lv' := [(6, .int x6_21), (0, .ref (A 64)), (1, .int x1), (2, .int x2), (3, .int x3), (4, .int x4), (5, .ref (A (gp y5 0))), (8, .int x8)]) hx hb dX7_walk_118 hl (k := 6) rfl (by rw [ex_22]; rfl) (by decide) rfl (fun ls hl => ?_)
  refine lv_goto (tgt := 30) hx hb dX7_walk_121 (by decide) ?_
  exact hK30 x1 x2 x3 x4 y5 x6_21 m_19 _ _ _ hy5 h hP hS (lv_sub hl [1, 2, 3, 4, 5, 6, 0] rfl)

def fX7_walk_91 (rec : Int32 → Int32 → Int32 → Int32 → Mm → Option (Int32 × Mm)) (K30 : Int32 → Int32 → Int32 → Int32 → Nat → Int32 → Mm → Option (Int32 × Mm)) (x1 : Int32) (x2 : Int32) (x3 : Int32) (x4 : Int32) (y5 : Nat) (x6 : Int32) (x7 : Int32) (s0 : Int32) (m : Mm) : Option (Int32 × Mm) := (if x6 = 0 then (fX7_walk_113 rec K30 x1 x2 x3 x4 y5 x6 s0 x3 (x2 + x7) (x1 + 1) m) else (fX7_walk_113 rec K30 x1 x2 x3 x4 y5 x6 s0 (x3 + 1) (x2 + x7) (x1 + 1) m))
set_option maxHeartbeats 4000000 in
set_option maxRecDepth 100000 in
theorem tX7_walk_91 {Fr Lr : Nat} (hI : InjA cN A)  {rec : Int32 → Int32 → Int32 → Int32 → Mm → Option (Int32 × Mm)} (hrec : ∀ (a1 : Int32) (a2 : Int32) (a3 : Int32) (a4 : Int32) (m : Mm) (r : Int32) (m' : Mm), rec a1 a2 a3 a4 m = some (r, m') → Met0 l yX7_walk cX7_walk 9 none { frames := Fr, cells := 0, slots := 0, locals := Lr } cLay cN D cA A [.ref (A 64), .int a1, .int a2, .int a3, .int a4] m none m') {r : Int32} {m' : Mm} {K30 : Int32 → Int32 → Int32 → Int32 → Nat → Int32 → Mm → Option (Int32 × Mm)} (hK30 : ∀ (x1 : Int32) (x2 : Int32) (x3 : Int32) (x4 : Int32) (y5 : Nat) (x6 : Int32) (m : Mm) (H : Heap) (locs : List Loc) (ls : Array Slot), (hy5 : y5 < 8) → K30 x1 x2 x3 x4 y5 x6 m = some (r, m') → va_P D vwCl (wsOf cLay cN cA A m) H → va_S (AW cN A) s.heap H locs → lv_has ls 9 [(0, .ref (A 64)), (1, .int x1), (2, .int x2), (3, .int x3), (4, .int x4), (5, .ref (A (gp y5 0))), (6, .int x6)] → W p l e { frames := Fr + 5, cells := 0, slots := 0, locals := Lr + 120 } s m0 args below meth c H locs 0 0 (ZR below args s cLay cN D cA A none m') (F0 m0 30 ls [])) (X : CX cLay cN D cA A p s m0 args meth c "BenchTowels$Plans" cX7_walk 9 none) : ∀ (x1 : Int32) (x2 : Int32) (x3 : Int32) (x4 : Int32) (y5 : Nat) (x6 : Int32) (x7 : Int32) (s0 : Int32) (m : Mm) (H : Heap) (locs : List Loc) (ls : Array Slot), (hy5 : y5 < 8) → fX7_walk_91 rec K30 x1 x2 x3 x4 y5 x6 x7 s0 m = some (r, m') → va_P D vwCl (wsOf cLay cN cA A m) H → va_S (AW cN A) s.heap H locs → lv_has ls 9 [(0, .ref (A 64)), (1, .int x1), (2, .int x2), (3, .int x3), (4, .int x4), (5, .ref (A (gp y5 0))), (6, .int x6), (7, .int x7)] → W p l e { frames := Fr + 5, cells := 0, slots := 0, locals := Lr + 120 } s m0 args below meth c H locs 0 0 (ZR below args s cLay cN D cA A none m') (F0 m0 91 ls [.int s0]) := by
  have hx := X.1
  have hb := X.2.1
  have hml := X.2.2.1
  have hown := X.2.2.2.1
  have hts := X.2.2.2.2.1
  have hF := X.2.2.2.2.2.2.2.2.1
  intro x1 x2 x3 x4 y5 x6 x7 s0 m H locs ls hy5 h hP hS hl
  rewrite [fX7_walk_91] at h
  refine lv_istore (lv' := [(8, .int s0), (0, .ref (A 64)), (1, .int x1), (2, .int x2), (3, .int x3), (4, .int x4), (5, .ref (A (gp y5 0))), (6, .int x6), (7, .int x7)]) hx hb dX7_walk_91 hl (by decide) rfl (fun ls hl => ?_)
  refine lv_aload_n hx hb dX7_walk_93 rfl (lv_at hl 1 rfl) ?_
  refine lv_iload_n hx hb dX7_walk_94 rfl (lv_at hl 2 rfl) ?_
  refine lv_iconst (v := 1) hx hb dX7_walk_95 (by decide) ?_
  refine lv_iadd hx hb dX7_walk_96 ?_
  refine lv_iload_n hx hb dX7_walk_97 rfl (lv_at hl 3 rfl) ?_
  refine lv_iload hx hb dX7_walk_98 (lv_at hl 8 rfl) ?_
  refine lv_iadd hx hb dX7_walk_100 ?_
  refine lv_iload hx hb dX7_walk_101 (lv_at hl 7 rfl) ?_
  refine lv_if_ne (tgt := 110) hx hb dX7_walk_103 (by decide) (fun c_17 => ?_) (fun c_17 => ?_)
  · have h := ifn c_17 h
    refine lv_iload_n hx hb dX7_walk_110 rfl (lv_at hl 4 rfl) ?_
    refine lv_iconst (v := 1) hx hb dX7_walk_111 (by decide) ?_
    refine lv_iadd hx hb dX7_walk_112 ?_
    exact tX7_walk_113 hI  hrec hK30 X x1 x2 x3 x4 y5 x6 s0 (x3 + 1) (x2 + x7) (x1 + 1) m _ _ _ hy5 h hP hS (lv_sub hl [1, 2, 3, 4, 5, 6, 7, 0] rfl)
  · have h := ifp c_17 h
    refine lv_iload_n hx hb dX7_walk_106 rfl (lv_at hl 4 rfl) ?_
    refine lv_goto (tgt := 113) hx hb dX7_walk_107 (by decide) ?_
    exact tX7_walk_113 hI  hrec hK30 X x1 x2 x3 x4 y5 x6 s0 x3 (x2 + x7) (x1 + 1) m _ _ _ hy5 h hP hS (lv_sub hl [1, 2, 3, 4, 5, 6, 7, 0] rfl)

def fX7_walk_30 (rec : Int32 → Int32 → Int32 → Int32 → Mm → Option (Int32 × Mm)) : Nat → Int32 → Int32 → Int32 → Int32 → Nat → Int32 → Mm → Option (Int32 × Mm)
  | 0, _, _, _, _, _, _, _ => none
  | n + 1, x1, x2, x3, x4, y5, x6, m => (if ((m (gp y5 0) 3) : Int32) < x6 then some (0, m) else gx x1 5 (bd (fX1_follow y5 (3 + (ix x1)) m) fun r_7 m_8 => bd (fX1_goBy y5 x6 m_8) fun r_10 m_11 => gx x1 4 (lt (up m_11 66 (ix x1) x6) fun m_14 => (if (m_14 (gp y5 0) 10) < 0 then (fX7_walk_91 rec (fun x1 x2 x3 x4 y5 x6 m => fX7_walk_30 rec n x1 x2 x3 x4 y5 x6 m) x1 x2 x3 x4 y5 x6 r_10 x4 m_14) else (fX7_walk_91 rec (fun x1 x2 x3 x4 y5 x6 m => fX7_walk_30 rec n x1 x2 x3 x4 y5 x6 m) x1 x2 x3 x4 y5 x6 r_10 (x4 ||| ((1 : Int32) <<< ((m_14 (gp y5 0) 10) &&& 31))) m_14)))))
set_option maxHeartbeats 4000000 in
set_option maxRecDepth 100000 in
theorem tX7_walk_30 {Fr Lr : Nat} (hI : InjA cN A)  {rec : Int32 → Int32 → Int32 → Int32 → Mm → Option (Int32 × Mm)} (hrec : ∀ (a1 : Int32) (a2 : Int32) (a3 : Int32) (a4 : Int32) (m : Mm) (r : Int32) (m' : Mm), rec a1 a2 a3 a4 m = some (r, m') → Met0 l yX7_walk cX7_walk 9 none { frames := Fr, cells := 0, slots := 0, locals := Lr } cLay cN D cA A [.ref (A 64), .int a1, .int a2, .int a3, .int a4] m none m') {r : Int32} {m' : Mm} (X : CX cLay cN D cA A p s m0 args meth c "BenchTowels$Plans" cX7_walk 9 none) : ∀ (n : Nat) (x1 : Int32) (x2 : Int32) (x3 : Int32) (x4 : Int32) (y5 : Nat) (x6 : Int32) (m : Mm) (H : Heap) (locs : List Loc) (ls : Array Slot), (hy5 : y5 < 8) → fX7_walk_30 rec n x1 x2 x3 x4 y5 x6 m = some (r, m') → va_P D vwCl (wsOf cLay cN cA A m) H → va_S (AW cN A) s.heap H locs → lv_has ls 9 [(0, .ref (A 64)), (1, .int x1), (2, .int x2), (3, .int x3), (4, .int x4), (5, .ref (A (gp y5 0))), (6, .int x6)] → W p l e { frames := Fr + 5, cells := 0, slots := 0, locals := Lr + 120 } s m0 args below meth c H locs 0 0 (ZR below args s cLay cN D cA A none m') (F0 m0 30 ls []) := by
  have hx := X.1
  have hb := X.2.1
  have hml := X.2.2.1
  have hown := X.2.2.2.1
  have hts := X.2.2.2.2.1
  have hF := X.2.2.2.2.2.2.2.2.1
  intro n
  induction n with
  | zero =>
    intro x1 x2 x3 x4 y5 x6 m H locs ls hy5 h hP hS hl
    exact absurd h (by rewrite [fX7_walk_30]; exact fun q => by cases q)
  | succ n ih =>
    intro x1 x2 x3 x4 y5 x6 m H locs ls hy5 h hP hS hl
    rewrite [fX7_walk_30] at h
    refine lv_iload hx hb dX7_walk_30 (lv_at hl 6 rfl) ?_
    refine lv_aload hx hb dX7_walk_32 (lv_at hl 5 rfl) ?_
    refine r_get kc_1 3 X hP (lt_g hy5 (by decide)) (L_gym hy5 _) (by decide) rfl wt_1_177 dX7_walk_34 ?_
    refine lv_icmp_gt (tgt := 124) hx hb dX7_walk_37 (by decide) (fun c_4 => ?_) (fun c_4 => ?_)
    · have h := ifp c_4 h
      exact r_vret X hP hS dX7_walk_124 h
    · have h := ifn c_4 h
      refine lv_aload hx hb dX7_walk_40 (lv_at hl 5 rfl) ?_
      refine lv_aload_n hx hb dX7_walk_42 rfl (lv_at hl 0 rfl) ?_
      refine r_get kc_7 0 X hP (by decide) (L_plans _) (by decide) rfl wt_1_233 dX7_walk_43 ?_
      refine lv_iload_n hx hb dX7_walk_46 rfl (lv_at hl 1 rfl) ?_
      obtain ⟨hin_5, h⟩ := gx_some h
      have q_6 := vp_lt hin_5
      refine r_rowq 4 (q' := (gp (3 + (ix x1)) 0)) rfl X hP (by decide) (Lq_65 _) hin_5 rfl q_6 rfl dX7_walk_47 ?_
      obtain ⟨r_7, m_8, hc_9, h⟩ := bd_some h
      refine c_V (rest := []) X hP hS (tX1_follow hI hy5 (lt_3 q_6) hc_9) (lt_g hy5 (by decide)) (L_gym hy5 _) rfl wt_4_113 wt_4_8 wt_4_9 wt_1_10 wt_4_10 ⟨rfl, hy_X1_follow⟩ ⟨rfl, rfl⟩ ⟨by dsimp only; omega, by dsimp only; omega⟩ rfl hl.1 rfl (Nat.le_of_ble_eq_true rfl) dX7_walk_48 rfl (fun H locs hP hS => ?_)
      refine lv_aload hx hb dX7_walk_51 (lv_at hl 5 rfl) ?_
      refine lv_iload hx hb dX7_walk_53 (lv_at hl 6 rfl) ?_
      obtain ⟨r_10, m_11, hc_12, h⟩ := bd_some h
      refine c_V (rest := []) X hP hS (tX1_goBy hI hy5 hc_12) (lt_g hy5 (by decide)) (L_gym hy5 _) rfl wt_4_114 wt_3_219 wt_3_220 wt_1_10 wt_3_221 ⟨rfl, hy_X1_goBy⟩ ⟨rfl, rfl⟩ ⟨by dsimp only; omega, by dsimp only; omega⟩ rfl hl.1 rfl (Nat.le_of_ble_eq_true rfl) dX7_walk_55 rfl (fun H locs hP hS => ?_)
      refine lv_istore (lv' := [(7, .int r_10), (0, .ref (A 64)), (1, .int x1), (2, .int x2), (3, .int x3), (4, .int x4), (5, .ref (A (gp y5 0))), (6, .int x6)]) hx hb dX7_walk_58 hl (by decide) rfl (fun ls hl => ?_)
      refine lv_aload_n hx hb dX7_walk_60 rfl (lv_at hl 1 rfl) ?_
      refine r_get kc_7 1 X hP (by decide) (L_plans _) (by decide) rfl wt_1_234 dX7_walk_61 ?_
      refine lv_iload_n hx hb dX7_walk_64 rfl (lv_at hl 2 rfl) ?_
      refine lv_iload hx hb dX7_walk_65 (lv_at hl 7 rfl) ?_
      obtain ⟨hin_13, h⟩ := gx_some h
      obtain ⟨m_14, em_15, h⟩ := lt_some h
      refine r_iast X hP hS (by decide) La_66 hin_13 rfl dX7_walk_67 em_15 (fun H locs hP hS => ?_)
      refine lv_aload hx hb dX7_walk_68 (lv_at hl 6 rfl) ?_
      refine r_get kc_1 10 X hP (lt_g hy5 (by decide)) (L_gym hy5 _) (by decide) rfl wt_1_193 dX7_walk_70 ?_
      refine lv_if_lt (tgt := 89) hx hb dX7_walk_73 (by decide) (fun c_16 => ?_) (fun c_16 => ?_)
      · have h := ifp c_16 h
        refine lv_iload hx hb dX7_walk_89 (lv_at hl 5 rfl) ?_
        exact tX7_walk_91 hI  hrec (fun x1 x2 x3 x4 y5 x6 m H locs ls hy5 h hP hS hl => ih x1 x2 x3 x4 y5 x6 m H locs ls hy5 h hP hS hl) X x1 x2 x3 x4 y5 x6 r_10 x4 m_14 _ _ _ hy5 h hP hS (lv_sub hl [1, 2, 3, 4, 5, 6, 7, 0] rfl)
      · have h := ifn c_16 h
        refine lv_iload hx hb dX7_walk_76 (lv_at hl 5 rfl) ?_
        refine lv_iconst (v := 1) hx hb dX7_walk_78 (by decide) ?_
        refine lv_aload hx hb dX7_walk_79 (lv_at hl 6 rfl) ?_
        refine r_get kc_1 10 X hP (lt_g hy5 (by decide)) (L_gym hy5 _) (by decide) rfl wt_1_193 dX7_walk_81 ?_
        refine lv_ishl hx hb dX7_walk_84 ?_
        refine lv_ior hx hb dX7_walk_85 ?_
        refine lv_goto (tgt := 91) hx hb dX7_walk_86 (by decide) ?_
        exact tX7_walk_91 hI  hrec (fun x1 x2 x3 x4 y5 x6 m H locs ls hy5 h hP hS hl => ih x1 x2 x3 x4 y5 x6 m H locs ls hy5 h hP hS hl) X x1 x2 x3 x4 y5 x6 r_10 (x4 ||| ((1 : Int32) <<< ((m_14 (gp y5 0) 10) &&& 31))) m_14 _ _ _ hy5 h hP hS (lv_sub hl [1, 2, 3, 4, 5, 6, 7, 0] rfl)

def fX7_walk (rec : Int32 → Int32 → Int32 → Int32 → Mm → Option (Int32 × Mm)) (a1 : Int32) (a2 : Int32) (a3 : Int32) (a4 : Int32) (m : Mm) : Option (Int32 × Mm) := (if a1 < (m 64 2) then gx (a1 + 1) 5 ((fX7_walk_30 rec FL a1 a2 a3 a4 (3 + (ix (a1 + 1))) 0 m)) else bd (fX7_weigh a2 a3 a4 m) fun r_23 m_24 => some (0, m_24))
set_option maxHeartbeats 4000000 in
set_option maxRecDepth 100000 in
theorem tX7_walk {l : Launch} {D : va_G} {cA : Nat → ClassId} {A : Nat → Nat} {Fr Lr : Nat} (hI : InjA cN A) {rec : Int32 → Int32 → Int32 → Int32 → Mm → Option (Int32 × Mm)} (hrec : ∀ (a1 : Int32) (a2 : Int32) (a3 : Int32) (a4 : Int32) (m : Mm) (r : Int32) (m' : Mm), rec a1 a2 a3 a4 m = some (r, m') → Met0 l yX7_walk cX7_walk 9 none { frames := Fr, cells := 0, slots := 0, locals := Lr } cLay cN D cA A [.ref (A 64), .int a1, .int a2, .int a3, .int a4] m none m') {a1 : Int32} {a2 : Int32} {a3 : Int32} {a4 : Int32} {m m' : Mm} {r : Int32} (h : fX7_walk rec a1 a2 a3 a4 m = some (r, m')) : Met0 l yX7_walk cX7_walk 9 none { frames := Fr + 5, cells := 0, slots := 0, locals := Lr + 120 } cLay cN D cA A [.ref (A 64), .int a1, .int a2, .int a3, .int a4] m none m' := by
  refine met0_of (by decide) (Nat.le_of_ble_eq_true rfl) hI ?_
  intro p e s m0 below meth c ls X hinit hP hS hl
  generalize ([.ref (A 64), .int a1, .int a2, .int a3, .int a4] : List Value).toArray = args at X ⊢
  have hl : lv_has ls 9 [(0, .ref (A 64)), (1, .int a1), (2, .int a2), (3, .int a3), (4, .int a4)] := hl
  have X : CX cLay cN D cA A p s m0 args meth c "BenchTowels$Plans" cX7_walk 9 none := X
  have hx := X.1
  have hb := X.2.1
  have hml := X.2.2.1
  have hown := X.2.2.2.1
  have hts := X.2.2.2.2.1
  have hF := X.2.2.2.2.2.2.2.2.1
  rewrite [fX7_walk] at h
  refine lv_iload_n hx hb dX7_walk_0 rfl (lv_at hl 1 rfl) ?_
  refine lv_aload_n hx hb dX7_walk_1 rfl (lv_at hl 0 rfl) ?_
  refine r_get kc_7 2 X hP (by decide) (L_plans _) (by decide) rfl wt_1_235 dX7_walk_2 ?_
  refine lv_icmp_lt (tgt := 17) hx hb dX7_walk_5 (by decide) (fun c_1 => ?_) (fun c_1 => ?_)
  · have h := ifp c_1 h
    refine lv_aload_n hx hb dX7_walk_17 rfl (lv_at hl 0 rfl) ?_
    refine r_get kc_7 0 X hP (by decide) (L_plans _) (by decide) rfl wt_1_233 dX7_walk_18 ?_
    refine lv_iload_n hx hb dX7_walk_21 rfl (lv_at hl 1 rfl) ?_
    refine lv_iconst (v := 1) hx hb dX7_walk_22 (by decide) ?_
    refine lv_iadd hx hb dX7_walk_23 ?_
    obtain ⟨hin_2, h⟩ := gx_some h
    have q_3 := vp_lt hin_2
    refine r_rowq 4 (q' := (gp (3 + (ix (a1 + 1))) 0)) rfl X hP (by decide) (Lq_65 _) hin_2 rfl q_3 rfl dX7_walk_24 ?_
    refine lv_astore (lv' := [(5, .ref (A (gp (3 + (ix (a1 + 1))) 0))), (0, .ref (A 64)), (1, .int a1), (2, .int a2), (3, .int a3), (4, .int a4)]) hx hb dX7_walk_25 hl (by decide) rfl (fun ls hl => ?_)
    refine lv_iconst (v := 0) hx hb dX7_walk_27 (by decide) ?_
    refine lv_istore (lv' := [(6, .int 0), (5, .ref (A (gp (3 + (ix (a1 + 1))) 0))), (0, .ref (A 64)), (1, .int a1), (2, .int a2), (3, .int a3), (4, .int a4)]) hx hb dX7_walk_28 hl (by decide) rfl (fun ls hl => ?_)
    exact tX7_walk_30 hI  hrec  X FL a1 a2 a3 a4 (3 + (ix (a1 + 1))) 0 m _ _ _ (lt_3 q_3) h hP hS (lv_sub hl [2, 3, 4, 5, 6, 1, 0] rfl)
  · have h := ifn c_1 h
    refine lv_aload_n hx hb dX7_walk_8 rfl (lv_at hl 0 rfl) ?_
    refine lv_iload_n hx hb dX7_walk_9 rfl (lv_at hl 2 rfl) ?_
    refine lv_iload_n hx hb dX7_walk_10 rfl (lv_at hl 3 rfl) ?_
    refine lv_iload hx hb dX7_walk_11 (lv_at hl 4 rfl) ?_
    obtain ⟨r_23, m_24, hc_25, h⟩ := bd_some h
    refine c_V (rest := []) X hP hS (tX7_weigh hI  hc_25) (by decide) (L_plans _) rfl wt_4_109 wt_4_111 ws_2_3 wt_1_11 wt_4_112 ⟨rfl, hy_X7_weigh⟩ ⟨rfl, rfl⟩ ⟨by dsimp only; omega, by dsimp only; omega⟩ rfl hl.1 rfl (Nat.le_of_ble_eq_true rfl) dX7_walk_13 rfl (fun H locs hP hS => ?_)
    exact r_vret X hP hS dX7_walk_16 h
def rX7_walk : Nat → Int32 → Int32 → Int32 → Int32 → Mm → Option (Int32 × Mm)
  | 0, _, _, _, _, _ => none
  | n + 1, a1, a2, a3, a4, m => fX7_walk (rX7_walk n) a1 a2 a3 a4 m
theorem tr0X7_walk {l : Launch} {D : va_G} {cA : Nat → ClassId} {A : Nat → Nat} (hI : InjA cN A) : ∀ (n : Nat) (a1 : Int32) (a2 : Int32) (a3 : Int32) (a4 : Int32) (m : Mm) (r : Int32) (m' : Mm), rX7_walk n a1 a2 a3 a4 m = some (r, m') → Met0 l yX7_walk cX7_walk 9 none { frames := 5 * n, cells := 0, slots := 0, locals := 120 * n } cLay cN D cA A [.ref (A 64), .int a1, .int a2, .int a3, .int a4] m none m' := by
  intro n
  induction n with
  | zero =>
    intro a1 a2 a3 a4 m r m' h
    exact absurd h (by rewrite [rX7_walk]; exact fun q => by cases q)
  | succ n ih =>
    intro a1 a2 a3 a4 m r m' h
    rewrite [rX7_walk] at h
    exact tX7_walk (Fr := 5 * n) (Lr := 120 * n) hI  ih h
theorem trX7_walk {l : Launch} {D : va_G} {cA : Nat → ClassId} {A : Nat → Nat} (hI : InjA cN A) (n : Nat) (a1 : Int32) (a2 : Int32) (a3 : Int32) (a4 : Int32) (m : Mm) (r : Int32) (m' : Mm) (h : rX7_walk n a1 a2 a3 a4 m = some (r, m')) : Met0 l yX7_walk cX7_walk 9 none { frames := 5 * n, cells := 0, slots := 0, locals := 120 * n } cLay cN D cA A [.ref (A 64), .int a1, .int a2, .int a3, .int a4] m none m' := tr0X7_walk hI n a1 a2 a3 a4 m r m' h

def fX7_search (j : Nat) (a2 : Int32) (a3 : Int32) (m : Mm) : Option (Int32 × Mm) := bd (fX7_begin j a2 m) fun r_1 m_2 => lt (up m_2 64 3 a3) fun m_4 => lt (up m_4 64 5 (m_4 64 2)) fun m_6 => lt (up m_6 64 6 (-1)) fun m_8 => lt (up m_8 64 7 0) fun m_10 => lt (up m_10 64 8 5) fun m_12 => lt (up m_12 64 9 0) fun m_14 => bd (rX7_walk 6 (0 : Int32) (0 : Int32) (0 : Int32) (0 : Int32) m_14) fun r_16 m_17 => some (0, m_17)
set_option maxHeartbeats 4000000 in
set_option maxRecDepth 100000 in
theorem tX7_search {l : Launch} {D : va_G} {cA : Nat → ClassId} {A : Nat → Nat} (hI : InjA cN A) {j : Nat} (hj : j < 8) {a2 : Int32} {a3 : Int32} {m m' : Mm} {r : Int32} (h : fX7_search j a2 a3 m = some (r, m')) : Met0 l yX7_search cX7_search 4 none { frames := 31, cells := 0, slots := 0, locals := 748 } cLay cN D cA A [.ref (A 64), .ref (A (gp j 0)), .int a2, .int a3] m none m' := by
  refine met0_of (by decide) (Nat.le_of_ble_eq_true rfl) hI ?_
  intro p e s m0 below meth c ls X hinit hP hS hl
  generalize ([.ref (A 64), .ref (A (gp j 0)), .int a2, .int a3] : List Value).toArray = args at X ⊢
  have hl : lv_has ls 4 [(0, .ref (A 64)), (1, .ref (A (gp j 0))), (2, .int a2), (3, .int a3)] := hl
  have X : CX cLay cN D cA A p s m0 args meth c "BenchTowels$Plans" cX7_search 4 none := X
  have hx := X.1
  have hb := X.2.1
  have hml := X.2.2.1
  have hown := X.2.2.2.1
  have hts := X.2.2.2.2.1
  have hF := X.2.2.2.2.2.2.2.2.1
  rewrite [fX7_search] at h
  refine lv_aload_n hx hb dX7_search_0 rfl (lv_at hl 0 rfl) ?_
  refine lv_aload_n hx hb dX7_search_1 rfl (lv_at hl 1 rfl) ?_
  refine lv_iload_n hx hb dX7_search_2 rfl (lv_at hl 2 rfl) ?_
  obtain ⟨r_1, m_2, hc_3, h⟩ := bd_some h
  refine c_V (rest := []) X hP hS (tX7_begin hI hj hc_3) (by decide) (L_plans _) rfl wt_4_99 wt_4_101 ws_2_1 wt_1_11 wt_4_102 ⟨rfl, hy_X7_begin⟩ ⟨rfl, rfl⟩ ⟨Nat.le_of_ble_eq_true rfl, Nat.le_of_ble_eq_true rfl⟩ rfl hl.1 rfl (Nat.le_of_ble_eq_true rfl) dX7_search_3 rfl (fun H locs hP hS => ?_)
  refine lv_aload_n hx hb dX7_search_6 rfl (lv_at hl 0 rfl) ?_
  refine lv_iload_n hx hb dX7_search_7 rfl (lv_at hl 3 rfl) ?_
  obtain ⟨m_4, em_5, h⟩ := lt_some h
  refine r_put kc_7 3 X hP hS (by decide) (L_plans _) (L_plans _) (by decide) wt_1_236 rfl (by decide +kernel) (Nat.le_of_ble_eq_true rfl) dX7_search_8 em_5 (fun H locs hP hS => ?_)
  refine lv_aload_n hx hb dX7_search_11 rfl (lv_at hl 0 rfl) ?_
  refine lv_aload_n hx hb dX7_search_12 rfl (lv_at hl 0 rfl) ?_
  refine r_get kc_7 2 X hP (by decide) (L_plans _) (by decide) rfl wt_1_235 dX7_search_13 ?_
  obtain ⟨m_6, em_7, h⟩ := lt_some h
  refine r_put kc_7 5 X hP hS (by decide) (L_plans _) (L_plans _) (by decide) wt_1_239 rfl (by decide +kernel) (Nat.le_of_ble_eq_true rfl) dX7_search_16 em_7 (fun H locs hP hS => ?_)
  refine lv_aload_n hx hb dX7_search_19 rfl (lv_at hl 0 rfl) ?_
  refine lv_iconst (v := (-1)) hx hb dX7_search_20 (by decide) ?_
  obtain ⟨m_8, em_9, h⟩ := lt_some h
  refine r_put kc_7 6 X hP hS (by decide) (L_plans _) (L_plans _) (by decide) wt_2_1 rfl (by decide +kernel) (Nat.le_of_ble_eq_true rfl) dX7_search_21 em_9 (fun H locs hP hS => ?_)
  refine lv_aload_n hx hb dX7_search_24 rfl (lv_at hl 0 rfl) ?_
  refine lv_iconst (v := 0) hx hb dX7_search_25 (by decide) ?_
  obtain ⟨m_10, em_11, h⟩ := lt_some h
  refine r_put kc_7 7 X hP hS (by decide) (L_plans _) (L_plans _) (by decide) wt_2_3 rfl (by decide +kernel) (Nat.le_of_ble_eq_true rfl) dX7_search_26 em_11 (fun H locs hP hS => ?_)
  refine lv_aload_n hx hb dX7_search_29 rfl (lv_at hl 0 rfl) ?_
  refine lv_iconst (v := 5) hx hb dX7_search_30 (by decide) ?_
  obtain ⟨m_12, em_13, h⟩ := lt_some h
  refine r_put kc_7 8 X hP hS (by decide) (L_plans _) (L_plans _) (by decide) wt_2_5 rfl (by decide +kernel) (Nat.le_of_ble_eq_true rfl) dX7_search_31 em_13 (fun H locs hP hS => ?_)
  refine lv_aload_n hx hb dX7_search_34 rfl (lv_at hl 0 rfl) ?_
  refine lv_iconst (v := 0) hx hb dX7_search_35 (by decide) ?_
  obtain ⟨m_14, em_15, h⟩ := lt_some h
  refine r_put kc_7 9 X hP hS (by decide) (L_plans _) (L_plans _) (by decide) wt_2_7 rfl (by decide +kernel) (Nat.le_of_ble_eq_true rfl) dX7_search_36 em_15 (fun H locs hP hS => ?_)
  refine lv_aload_n hx hb dX7_search_39 rfl (lv_at hl 0 rfl) ?_
  refine lv_iconst (v := 0) hx hb dX7_search_40 (by decide) ?_
  refine lv_iconst (v := 0) hx hb dX7_search_41 (by decide) ?_
  refine lv_iconst (v := 0) hx hb dX7_search_42 (by decide) ?_
  refine lv_iconst (v := 0) hx hb dX7_search_43 (by decide) ?_
  obtain ⟨r_16, m_17, hc_18, h⟩ := bd_some h
  refine c_V (rest := []) X hP hS (trX7_walk hI  6 (0 : Int32) (0 : Int32) (0 : Int32) (0 : Int32) _ _ _ hc_18) (by decide) (L_plans _) rfl wt_4_105 wt_4_107 ws_2_2 wt_1_11 wt_4_108 ⟨rfl, hy_X7_walk⟩ ⟨rfl, rfl⟩ ⟨Nat.le_of_ble_eq_true rfl, Nat.le_of_ble_eq_true rfl⟩ rfl hl.1 rfl (Nat.le_of_ble_eq_true rfl) dX7_search_44 rfl (fun H locs hP hS => ?_)
  exact r_vret X hP hS dX7_search_47 h

def fX7_playOn_101 (rec : Int32 → Mm → Option (Int32 × Mm)) (K37 : Int32 → Int32 → Nat → Int32 → Int32 → Mm → Option (Int32 × Mm)) (x1 : Int32) (x2 : Int32) (y3 : Nat) (x5 : Int32) (x6 : Int32) (m : Mm) : Option (Int32 × Mm) := (if x1 = 0 then lt (up m 64 11 x5) fun m_23 => lt ((x5 : Int32) + 1) fun x5_25 => (K37 x1 x2 y3 x6 x5_25 m_23) else lt ((x5 : Int32) + 1) fun x5_21 => (K37 x1 x2 y3 x6 x5_21 m))
set_option maxHeartbeats 4000000 in
set_option maxRecDepth 100000 in
theorem tX7_playOn_101 {Fr Lr : Nat} (hI : InjA cN A)  {rec : Int32 → Mm → Option (Int32 × Mm)} (hrec : ∀ (a1 : Int32) (m : Mm) (r : Int32) (m' : Mm), rec a1 m = some (r, m') → Met0 l yX7_playOn cX7_playOn 7 (some .int) { frames := Fr, cells := 0, slots := 0, locals := Lr } cLay cN D cA A [.ref (A 64), .int a1] m (some (.int r)) m') {r : Int32} {m' : Mm} {K37 : Int32 → Int32 → Nat → Int32 → Int32 → Mm → Option (Int32 × Mm)} (hK37 : ∀ (x1 : Int32) (x2 : Int32) (y3 : Nat) (x4 : Int32) (x5 : Int32) (m : Mm) (H : Heap) (locs : List Loc) (ls : Array Slot), (hy3 : y3 < 8) → K37 x1 x2 y3 x4 x5 m = some (r, m') → va_P D vwCl (wsOf cLay cN cA A m) H → va_S (AW cN A) s.heap H locs → lv_has ls 7 [(0, .ref (A 64)), (1, .int x1), (2, .int x2), (3, .ref (A (gp y3 0))), (4, .int x4), (5, .int x5)] → W p l e { frames := Fr + 5, cells := 0, slots := 0, locals := Lr + 120 } s m0 args below meth c H locs 0 0 (ZR below args s cLay cN D cA A (some (.int r)) m') (F0 m0 37 ls [])) (X : CX cLay cN D cA A p s m0 args meth c "BenchTowels$Plans" cX7_playOn 7 (some .int)) : ∀ (x1 : Int32) (x2 : Int32) (y3 : Nat) (x5 : Int32) (x6 : Int32) (m : Mm) (H : Heap) (locs : List Loc) (ls : Array Slot), (hy3 : y3 < 8) → fX7_playOn_101 rec K37 x1 x2 y3 x5 x6 m = some (r, m') → va_P D vwCl (wsOf cLay cN cA A m) H → va_S (AW cN A) s.heap H locs → lv_has ls 7 [(0, .ref (A 64)), (1, .int x1), (2, .int x2), (3, .ref (A (gp y3 0))), (5, .int x5), (6, .int x6)] → W p l e { frames := Fr + 5, cells := 0, slots := 0, locals := Lr + 120 } s m0 args below meth c H locs 0 0 (ZR below args s cLay cN D cA A (some (.int r)) m') (F0 m0 101 ls []) := by
  have hx := X.1
  have hb := X.2.1
  have hml := X.2.2.1
  have hown := X.2.2.2.1
  have hts := X.2.2.2.2.1
  have hF := X.2.2.2.2.2.2.2.2.1
  intro x1 x2 y3 x5 x6 m H locs ls hy3 h hP hS hl
  rewrite [fX7_playOn_101] at h
  refine lv_iload hx hb dX7_playOn_101 (lv_at hl 5 rfl) ?_
  refine lv_istore (lv' := [(4, .int x6), (0, .ref (A 64)), (1, .int x1), (2, .int x2), (3, .ref (A (gp y3 0))), (5, .int x5), (6, .int x6)]) hx hb dX7_playOn_103 hl (by decide) rfl (fun ls hl => ?_)
  refine lv_iload_n hx hb dX7_playOn_105 rfl (lv_at hl 2 rfl) ?_
  refine lv_if_ne (tgt := 115) hx hb dX7_playOn_106 (by decide) (fun c_20 => ?_) (fun c_20 => ?_)
  · have h := ifn c_20 h
    obtain ⟨x5_21, ex_22, h⟩ := lt_some h
    refine lv_iinc (v := x5_21) (lv' := [(5, .int x5_21), (4, .int x6), (0, .ref (A 64)), (1, .int x1), (2, .int x2), (3, .ref (A (gp y3 0))), (6, .int x6)]) hx hb dX7_playOn_115 hl (k := 5) rfl (by rw [ex_22]; rfl) (by decide) rfl (fun ls hl => ?_)
    refine lv_goto (tgt := 37) hx hb dX7_playOn_118 (by decide) ?_
    exact hK37 x1 x2 y3 x6 x5_21 m _ _ _ hy3 h hP hS (lv_sub hl [2, 3, 4, 5, 1, 0] rfl)
  · have h := ifp c_20 h
    refine lv_aload_n hx hb dX7_playOn_109 rfl (lv_at hl 1 rfl) ?_
    refine lv_iload hx hb dX7_playOn_110 (lv_at hl 5 rfl) ?_
    obtain ⟨m_23, em_24, h⟩ := lt_some h
    refine r_put kc_7 11 X hP hS (by decide) (L_plans _) (L_plans _) (by decide) wt_2_11 rfl (by decide +kernel) (Nat.le_of_ble_eq_true rfl) dX7_playOn_112 em_24 (fun H locs hP hS => ?_)
    obtain ⟨x5_25, ex_26, h⟩ := lt_some h
    refine lv_iinc (v := x5_25) (lv' := [(5, .int x5_25), (4, .int x6), (0, .ref (A 64)), (1, .int x1), (2, .int x2), (3, .ref (A (gp y3 0))), (6, .int x6)]) hx hb dX7_playOn_115 hl (k := 5) rfl (by rw [ex_26]; rfl) (by decide) rfl (fun ls hl => ?_)
    refine lv_goto (tgt := 37) hx hb dX7_playOn_118 (by decide) ?_
    exact hK37 x1 x2 y3 x6 x5_25 m_23 _ _ _ hy3 h hP hS (lv_sub hl [2, 3, 4, 5, 1, 0] rfl)

def fX7_playOn_37 (rec : Int32 → Mm → Option (Int32 × Mm)) : Nat → Int32 → Int32 → Nat → Int32 → Int32 → Mm → Option (Int32 × Mm)
  | 0, _, _, _, _, _, _ => none
  | n + 1, x1, x2, y3, x4, x5, m => (if ((m (gp y3 0) 3) : Int32) < x5 then some (x4, m) else gx x1 5 (bd (fX1_follow y3 (3 + (ix x1)) m) fun r_8 m_9 => bd (fX1_goBy y3 x5 m_9) fun r_11 m_12 => bd (rec (x1 + 1) m_12) fun r_14 m_15 => lt (r_11 + r_14) fun x6_17 => (if x5 ≤ 0 then fX7_playOn_101 rec (fun x1 x2 y3 x4 x5 m => fX7_playOn_37 rec n x1 x2 y3 x4 x5 m) x1 x2 y3 x5 x6_17 m_15 else (if x2 = 0 then (if x6_17 < x4 then fX7_playOn_101 rec (fun x1 x2 y3 x4 x5 m => fX7_playOn_37 rec n x1 x2 y3 x4 x5 m) x1 x2 y3 x5 x6_17 m_15 else lt ((x5 : Int32) + 1) fun x5_29 => (fX7_playOn_37 rec n x1 x2 y3 x4 x5_29 m_15)) else (if (x4 : Int32) < x6_17 then fX7_playOn_101 rec (fun x1 x2 y3 x4 x5 m => fX7_playOn_37 rec n x1 x2 y3 x4 x5 m) x1 x2 y3 x5 x6_17 m_15 else lt ((x5 : Int32) + 1) fun x5_32 => (fX7_playOn_37 rec n x1 x2 y3 x4 x5_32 m_15))))))
set_option maxHeartbeats 4000000 in
set_option maxRecDepth 100000 in
theorem tX7_playOn_37 {Fr Lr : Nat} (hI : InjA cN A)  {rec : Int32 → Mm → Option (Int32 × Mm)} (hrec : ∀ (a1 : Int32) (m : Mm) (r : Int32) (m' : Mm), rec a1 m = some (r, m') → Met0 l yX7_playOn cX7_playOn 7 (some .int) { frames := Fr, cells := 0, slots := 0, locals := Lr } cLay cN D cA A [.ref (A 64), .int a1] m (some (.int r)) m') {r : Int32} {m' : Mm} (X : CX cLay cN D cA A p s m0 args meth c "BenchTowels$Plans" cX7_playOn 7 (some .int)) : ∀ (n : Nat) (x1 : Int32) (x2 : Int32) (y3 : Nat) (x4 : Int32) (x5 : Int32) (m : Mm) (H : Heap) (locs : List Loc) (ls : Array Slot), (hy3 : y3 < 8) → fX7_playOn_37 rec n x1 x2 y3 x4 x5 m = some (r, m') → va_P D vwCl (wsOf cLay cN cA A m) H → va_S (AW cN A) s.heap H locs → lv_has ls 7 [(0, .ref (A 64)), (1, .int x1), (2, .int x2), (3, .ref (A (gp y3 0))), (4, .int x4), (5, .int x5)] → W p l e { frames := Fr + 5, cells := 0, slots := 0, locals := Lr + 120 } s m0 args below meth c H locs 0 0 (ZR below args s cLay cN D cA A (some (.int r)) m') (F0 m0 37 ls []) := by
  have hx := X.1
  have hb := X.2.1
  have hml := X.2.2.1
  have hown := X.2.2.2.1
  have hts := X.2.2.2.2.1
  have hF := X.2.2.2.2.2.2.2.2.1
  intro n
  induction n with
  | zero =>
    intro x1 x2 y3 x4 x5 m H locs ls hy3 h hP hS hl
    exact absurd h (by rewrite [fX7_playOn_37]; exact fun q => by cases q)
  | succ n ih =>
    intro x1 x2 y3 x4 x5 m H locs ls hy3 h hP hS hl
    rewrite [fX7_playOn_37] at h
    refine lv_iload hx hb dX7_playOn_37 (lv_at hl 5 rfl) ?_
    refine lv_aload_n hx hb dX7_playOn_39 rfl (lv_at hl 3 rfl) ?_
    refine r_get kc_1 3 X hP (lt_g hy3 (by decide)) (L_gym hy3 _) (by decide) rfl wt_1_177 dX7_playOn_40 ?_
    refine lv_icmp_gt (tgt := 121) hx hb dX7_playOn_43 (by decide) (fun c_5 => ?_) (fun c_5 => ?_)
    · have h := ifp c_5 h
      refine lv_iload hx hb dX7_playOn_121 (lv_at hl 4 rfl) ?_
      exact r_iret X hP hS dX7_playOn_123 h
    · have h := ifn c_5 h
      refine lv_aload_n hx hb dX7_playOn_46 rfl (lv_at hl 3 rfl) ?_
      refine lv_aload_n hx hb dX7_playOn_47 rfl (lv_at hl 0 rfl) ?_
      refine r_get kc_7 0 X hP (by decide) (L_plans _) (by decide) rfl wt_1_233 dX7_playOn_48 ?_
      refine lv_iload_n hx hb dX7_playOn_51 rfl (lv_at hl 1 rfl) ?_
      obtain ⟨hin_6, h⟩ := gx_some h
      have q_7 := vp_lt hin_6
      refine r_rowq 4 (q' := (gp (3 + (ix x1)) 0)) rfl X hP (by decide) (Lq_65 _) hin_6 rfl q_7 rfl dX7_playOn_52 ?_
      obtain ⟨r_8, m_9, hc_10, h⟩ := bd_some h
      refine c_V (rest := []) X hP hS (tX1_follow hI hy3 (lt_3 q_7) hc_10) (lt_g hy3 (by decide)) (L_gym hy3 _) rfl wt_4_113 wt_4_8 wt_4_9 wt_1_10 wt_4_10 ⟨rfl, hy_X1_follow⟩ ⟨rfl, rfl⟩ ⟨by dsimp only; omega, by dsimp only; omega⟩ rfl hl.1 rfl (Nat.le_of_ble_eq_true rfl) dX7_playOn_53 rfl (fun H locs hP hS => ?_)
      refine lv_aload_n hx hb dX7_playOn_56 rfl (lv_at hl 3 rfl) ?_
      refine lv_iload hx hb dX7_playOn_57 (lv_at hl 5 rfl) ?_
      obtain ⟨r_11, m_12, hc_13, h⟩ := bd_some h
      refine c_V (rest := []) X hP hS (tX1_goBy hI hy3 hc_13) (lt_g hy3 (by decide)) (L_gym hy3 _) rfl wt_4_114 wt_3_219 wt_3_220 wt_1_10 wt_3_221 ⟨rfl, hy_X1_goBy⟩ ⟨rfl, rfl⟩ ⟨by dsimp only; omega, by dsimp only; omega⟩ rfl hl.1 rfl (Nat.le_of_ble_eq_true rfl) dX7_playOn_59 rfl (fun H locs hP hS => ?_)
      refine lv_aload_n hx hb dX7_playOn_62 rfl (lv_at hl 0 rfl) ?_
      refine lv_iload_n hx hb dX7_playOn_63 rfl (lv_at hl 1 rfl) ?_
      refine lv_iconst (v := 1) hx hb dX7_playOn_64 (by decide) ?_
      refine lv_iadd hx hb dX7_playOn_65 ?_
      obtain ⟨r_14, m_15, hc_16, h⟩ := bd_some h
      refine c_V (rest := [.int r_11]) X hP hS (hrec (x1 + 1) _ _ _ hc_16) (by decide) (L_plans _) rfl wt_4_140 wt_4_142 ws_2_4 wt_1_11 wt_4_143 ⟨rfl, hy_X7_playOn⟩ ⟨rfl, rfl⟩ ⟨by dsimp only; omega, by dsimp only; omega⟩ rfl hl.1 rfl (Nat.le_of_ble_eq_true rfl) dX7_playOn_66 rfl (fun H locs hP hS => ?_)
      refine lv_iadd hx hb dX7_playOn_69 ?_
      obtain ⟨x6_17, ex_18, h⟩ := lt_some h
      refine lv_ren ex_18 ?_
      refine lv_istore (lv' := [(6, .int x6_17), (0, .ref (A 64)), (1, .int x1), (2, .int x2), (3, .ref (A (gp y3 0))), (4, .int x4), (5, .int x5)]) hx hb dX7_playOn_70 hl (by decide) rfl (fun ls hl => ?_)
      refine lv_iload hx hb dX7_playOn_72 (lv_at hl 6 rfl) ?_
      refine lv_if_le (tgt := 101) hx hb dX7_playOn_74 (by decide) (fun c_19 => ?_) (fun c_19 => ?_)
      · have h := ifp c_19 h
        exact tX7_playOn_101 hI  hrec (fun x1 x2 y3 x4 x5 m H locs ls hy3 h hP hS hl => ih x1 x2 y3 x4 x5 m H locs ls hy3 h hP hS hl) X x1 x2 y3 x5 x6_17 m_15 _ _ _ hy3 h hP hS (lv_sub hl [1, 2, 3, 4, 6, 0] rfl)
      · have h := ifn c_19 h
        refine lv_iload_n hx hb dX7_playOn_77 rfl (lv_at hl 3 rfl) ?_
        refine lv_if_eq (tgt := 91) hx hb dX7_playOn_78 (by decide) (fun c_27 => ?_) (fun c_27 => ?_)
        · have h := ifp c_27 h
          refine lv_iload hx hb dX7_playOn_91 (lv_at hl 0 rfl) ?_
          refine lv_iload hx hb dX7_playOn_93 (lv_at hl 5 rfl) ?_
          refine lv_icmp_lt (tgt := 101) hx hb dX7_playOn_95 (by decide) (fun c_28 => ?_) (fun c_28 => ?_)
          · have h := ifp c_28 h
            exact tX7_playOn_101 hI  hrec (fun x1 x2 y3 x4 x5 m H locs ls hy3 h hP hS hl => ih x1 x2 y3 x4 x5 m H locs ls hy3 h hP hS hl) X x1 x2 y3 x5 x6_17 m_15 _ _ _ hy3 h hP hS (lv_sub hl [1, 2, 3, 4, 6, 0] rfl)
          · have h := ifn c_28 h
            refine lv_goto (tgt := 115) hx hb dX7_playOn_98 (by decide) ?_
            obtain ⟨x5_29, ex_30, h⟩ := lt_some h
            refine lv_iinc (v := x5_29) (lv' := [(5, .int x5_29), (6, .int x6_17), (0, .ref (A 64)), (1, .int x1), (2, .int x2), (3, .ref (A (gp y3 0))), (4, .int x4)]) hx hb dX7_playOn_115 hl (k := 6) rfl (by rw [ex_30]; rfl) (by decide) rfl (fun ls hl => ?_)
            refine lv_goto (tgt := 37) hx hb dX7_playOn_118 (by decide) ?_
            exact ih x1 x2 y3 x4 x5_29 m_15 _ _ _ hy3 h hP hS (lv_sub hl [2, 3, 4, 5, 6, 0] rfl)
        · have h := ifn c_27 h
          refine lv_iload hx hb dX7_playOn_81 (lv_at hl 0 rfl) ?_
          refine lv_iload hx hb dX7_playOn_83 (lv_at hl 5 rfl) ?_
          refine lv_icmp_gt (tgt := 101) hx hb dX7_playOn_85 (by decide) (fun c_31 => ?_) (fun c_31 => ?_)
          · have h := ifp c_31 h
            exact tX7_playOn_101 hI  hrec (fun x1 x2 y3 x4 x5 m H locs ls hy3 h hP hS hl => ih x1 x2 y3 x4 x5 m H locs ls hy3 h hP hS hl) X x1 x2 y3 x5 x6_17 m_15 _ _ _ hy3 h hP hS (lv_sub hl [1, 2, 3, 4, 6, 0] rfl)
          · have h := ifn c_31 h
            refine lv_goto (tgt := 115) hx hb dX7_playOn_88 (by decide) ?_
            obtain ⟨x5_32, ex_33, h⟩ := lt_some h
            refine lv_iinc (v := x5_32) (lv' := [(5, .int x5_32), (6, .int x6_17), (0, .ref (A 64)), (1, .int x1), (2, .int x2), (3, .ref (A (gp y3 0))), (4, .int x4)]) hx hb dX7_playOn_115 hl (k := 6) rfl (by rw [ex_33]; rfl) (by decide) rfl (fun ls hl => ?_)
            refine lv_goto (tgt := 37) hx hb dX7_playOn_118 (by decide) ?_
            exact ih x1 x2 y3 x4 x5_32 m_15 _ _ _ hy3 h hP hS (lv_sub hl [2, 3, 4, 5, 6, 0] rfl)

def fX7_playOn_21 (rec : Int32 → Mm → Option (Int32 × Mm)) (x1 : Int32) (s0 : Int32) (m : Mm) : Option (Int32 × Mm) := gx (x1 + 1) 5 ((fX7_playOn_37 rec FL x1 s0 (3 + (ix (x1 + 1))) 0 0 m))
set_option maxHeartbeats 4000000 in
set_option maxRecDepth 100000 in
theorem tX7_playOn_21 {Fr Lr : Nat} (hI : InjA cN A)  {rec : Int32 → Mm → Option (Int32 × Mm)} (hrec : ∀ (a1 : Int32) (m : Mm) (r : Int32) (m' : Mm), rec a1 m = some (r, m') → Met0 l yX7_playOn cX7_playOn 7 (some .int) { frames := Fr, cells := 0, slots := 0, locals := Lr } cLay cN D cA A [.ref (A 64), .int a1] m (some (.int r)) m') {r : Int32} {m' : Mm} (X : CX cLay cN D cA A p s m0 args meth c "BenchTowels$Plans" cX7_playOn 7 (some .int)) : ∀ (x1 : Int32) (s0 : Int32) (m : Mm) (H : Heap) (locs : List Loc) (ls : Array Slot), fX7_playOn_21 rec x1 s0 m = some (r, m') → va_P D vwCl (wsOf cLay cN cA A m) H → va_S (AW cN A) s.heap H locs → lv_has ls 7 [(0, .ref (A 64)), (1, .int x1)] → W p l e { frames := Fr + 5, cells := 0, slots := 0, locals := Lr + 120 } s m0 args below meth c H locs 0 0 (ZR below args s cLay cN D cA A (some (.int r)) m') (F0 m0 21 ls [.int s0]) := by
  have hx := X.1
  have hb := X.2.1
  have hml := X.2.2.1
  have hown := X.2.2.2.1
  have hts := X.2.2.2.2.1
  have hF := X.2.2.2.2.2.2.2.2.1
  intro x1 s0 m H locs ls h hP hS hl
  rewrite [fX7_playOn_21] at h
  refine lv_istore_n (lv' := [(2, .int s0), (0, .ref (A 64)), (1, .int x1)]) hx hb dX7_playOn_21 rfl hl (by decide) rfl (fun ls hl => ?_)
  refine lv_aload_n hx hb dX7_playOn_22 rfl (lv_at hl 1 rfl) ?_
  refine r_get kc_7 0 X hP (by decide) (L_plans _) (by decide) rfl wt_1_233 dX7_playOn_23 ?_
  refine lv_iload_n hx hb dX7_playOn_26 rfl (lv_at hl 2 rfl) ?_
  refine lv_iconst (v := 1) hx hb dX7_playOn_27 (by decide) ?_
  refine lv_iadd hx hb dX7_playOn_28 ?_
  obtain ⟨hin_3, h⟩ := gx_some h
  have q_4 := vp_lt hin_3
  refine r_rowq 4 (q' := (gp (3 + (ix (x1 + 1))) 0)) rfl X hP (by decide) (Lq_65 _) hin_3 rfl q_4 rfl dX7_playOn_29 ?_
  refine lv_astore_n (lv' := [(3, .ref (A (gp (3 + (ix (x1 + 1))) 0))), (2, .int s0), (0, .ref (A 64)), (1, .int x1)]) hx hb dX7_playOn_30 rfl hl (by decide) rfl (fun ls hl => ?_)
  refine lv_iconst (v := 0) hx hb dX7_playOn_31 (by decide) ?_
  refine lv_istore (lv' := [(4, .int 0), (3, .ref (A (gp (3 + (ix (x1 + 1))) 0))), (2, .int s0), (0, .ref (A 64)), (1, .int x1)]) hx hb dX7_playOn_32 hl (by decide) rfl (fun ls hl => ?_)
  refine lv_iconst (v := 0) hx hb dX7_playOn_34 (by decide) ?_
  refine lv_istore (lv' := [(5, .int 0), (4, .int 0), (3, .ref (A (gp (3 + (ix (x1 + 1))) 0))), (2, .int s0), (0, .ref (A 64)), (1, .int x1)]) hx hb dX7_playOn_35 hl (by decide) rfl (fun ls hl => ?_)
  exact tX7_playOn_37 hI  hrec  X FL x1 s0 (3 + (ix (x1 + 1))) 0 0 m _ _ _ (lt_3 q_4) h hP hS (lv_sub hl [4, 5, 3, 2, 1, 0] rfl)

def fX7_playOn (rec : Int32 → Mm → Option (Int32 × Mm)) (a1 : Int32) (m : Mm) : Option (Int32 × Mm) := (if a1 < (m 64 2) then (if (a1 - a1 / 2 * 2) = 0 then (fX7_playOn_21 rec a1 1 m) else (fX7_playOn_21 rec a1 0 m)) else some (0, m))
set_option maxHeartbeats 4000000 in
set_option maxRecDepth 100000 in
theorem tX7_playOn {l : Launch} {D : va_G} {cA : Nat → ClassId} {A : Nat → Nat} {Fr Lr : Nat} (hI : InjA cN A) {rec : Int32 → Mm → Option (Int32 × Mm)} (hrec : ∀ (a1 : Int32) (m : Mm) (r : Int32) (m' : Mm), rec a1 m = some (r, m') → Met0 l yX7_playOn cX7_playOn 7 (some .int) { frames := Fr, cells := 0, slots := 0, locals := Lr } cLay cN D cA A [.ref (A 64), .int a1] m (some (.int r)) m') {a1 : Int32} {m m' : Mm} {r : Int32} (h : fX7_playOn rec a1 m = some (r, m')) : Met0 l yX7_playOn cX7_playOn 7 (some .int) { frames := Fr + 5, cells := 0, slots := 0, locals := Lr + 120 } cLay cN D cA A [.ref (A 64), .int a1] m (some (.int r)) m' := by
  refine met0_of (by decide) (Nat.le_of_ble_eq_true rfl) hI ?_
  intro p e s m0 below meth c ls X hinit hP hS hl
  generalize ([.ref (A 64), .int a1] : List Value).toArray = args at X ⊢
  have hl : lv_has ls 7 [(0, .ref (A 64)), (1, .int a1)] := hl
  have X : CX cLay cN D cA A p s m0 args meth c "BenchTowels$Plans" cX7_playOn 7 (some .int) := X
  have hx := X.1
  have hb := X.2.1
  have hml := X.2.2.1
  have hown := X.2.2.2.1
  have hts := X.2.2.2.2.1
  have hF := X.2.2.2.2.2.2.2.2.1
  rewrite [fX7_playOn] at h
  refine lv_iload_n hx hb dX7_playOn_0 rfl (lv_at hl 1 rfl) ?_
  refine lv_aload_n hx hb dX7_playOn_1 rfl (lv_at hl 0 rfl) ?_
  refine r_get kc_7 2 X hP (by decide) (L_plans _) (by decide) rfl wt_1_235 dX7_playOn_2 ?_
  refine lv_icmp_lt (tgt := 10) hx hb dX7_playOn_5 (by decide) (fun c_1 => ?_) (fun c_1 => ?_)
  · have h := ifp c_1 h
    refine lv_iload_n hx hb dX7_playOn_10 rfl (lv_at hl 1 rfl) ?_
    refine lv_iconst (v := 2) hx hb dX7_playOn_11 (by decide) ?_
    refine lv_irem hx hb dX7_playOn_12 (by decide) ?_
    refine lv_if_ne (tgt := 20) hx hb dX7_playOn_13 (by decide) (fun c_2 => ?_) (fun c_2 => ?_)
    · have h := ifn c_2 h
      refine lv_iconst (v := 0) hx hb dX7_playOn_20 (by decide) ?_
      exact tX7_playOn_21 hI  hrec  X a1 0 m _ _ _  h hP hS (lv_sub hl [0, 1] rfl)
    · have h := ifp c_2 h
      refine lv_iconst (v := 1) hx hb dX7_playOn_16 (by decide) ?_
      refine lv_goto (tgt := 21) hx hb dX7_playOn_17 (by decide) ?_
      exact tX7_playOn_21 hI  hrec  X a1 1 m _ _ _  h hP hS (lv_sub hl [0, 1] rfl)
  · have h := ifn c_1 h
    refine lv_iconst (v := 0) hx hb dX7_playOn_8 (by decide) ?_
    exact r_iret X hP hS dX7_playOn_9 h
def rX7_playOn : Nat → Int32 → Mm → Option (Int32 × Mm)
  | 0, _, _ => none
  | n + 1, a1, m => fX7_playOn (rX7_playOn n) a1 m
theorem tr0X7_playOn {l : Launch} {D : va_G} {cA : Nat → ClassId} {A : Nat → Nat} (hI : InjA cN A) : ∀ (n : Nat) (a1 : Int32) (m : Mm) (r : Int32) (m' : Mm), rX7_playOn n a1 m = some (r, m') → Met0 l yX7_playOn cX7_playOn 7 (some .int) { frames := 5 * n, cells := 0, slots := 0, locals := 120 * n } cLay cN D cA A [.ref (A 64), .int a1] m (some (.int r)) m' := by
  intro n
  induction n with
  | zero =>
    intro a1 m r m' h
    exact absurd h (by rewrite [rX7_playOn]; exact fun q => by cases q)
  | succ n ih =>
    intro a1 m r m' h
    rewrite [rX7_playOn] at h
    exact tX7_playOn (Fr := 5 * n) (Lr := 120 * n) hI  ih h
theorem trX7_playOn {l : Launch} {D : va_G} {cA : Nat → ClassId} {A : Nat → Nat} (hI : InjA cN A) (n : Nat) (a1 : Int32) (m : Mm) (r : Int32) (m' : Mm) (h : rX7_playOn n a1 m = some (r, m')) : Met0 l yX7_playOn cX7_playOn 7 (some .int) { frames := 5 * n, cells := 0, slots := 0, locals := 120 * n } cLay cN D cA A [.ref (A 64), .int a1] m (some (.int r)) m' := tr0X7_playOn hI n a1 m r m' h

def fX7_match (j : Nat) (a2 : Int32) (m : Mm) : Option (Int32 × Mm) := bd (fX7_begin j a2 m) fun r_1 m_2 => bd (rX7_playOn 6 (0 : Int32) m_2) fun r_4 m_5 => lt (up m_5 64 10 r_4) fun m_7 => some (0, m_7)
set_option maxHeartbeats 4000000 in
set_option maxRecDepth 100000 in
theorem tX7_match {l : Launch} {D : va_G} {cA : Nat → ClassId} {A : Nat → Nat} (hI : InjA cN A) {j : Nat} (hj : j < 8) {a2 : Int32} {m m' : Mm} {r : Int32} (h : fX7_match j a2 m = some (r, m')) : Met0 l yX7_match cX7_match 3 none { frames := 31, cells := 0, slots := 0, locals := 746 } cLay cN D cA A [.ref (A 64), .ref (A (gp j 0)), .int a2] m none m' := by
  refine met0_of (by decide) (Nat.le_of_ble_eq_true rfl) hI ?_
  intro p e s m0 below meth c ls X hinit hP hS hl
  generalize ([.ref (A 64), .ref (A (gp j 0)), .int a2] : List Value).toArray = args at X ⊢
  have hl : lv_has ls 3 [(0, .ref (A 64)), (1, .ref (A (gp j 0))), (2, .int a2)] := hl
  have X : CX cLay cN D cA A p s m0 args meth c "BenchTowels$Plans" cX7_match 3 none := X
  have hx := X.1
  have hb := X.2.1
  have hml := X.2.2.1
  have hown := X.2.2.2.1
  have hts := X.2.2.2.2.1
  have hF := X.2.2.2.2.2.2.2.2.1
  rewrite [fX7_match] at h
  refine lv_aload_n hx hb dX7_match_0 rfl (lv_at hl 0 rfl) ?_
  refine lv_aload_n hx hb dX7_match_1 rfl (lv_at hl 1 rfl) ?_
  refine lv_iload_n hx hb dX7_match_2 rfl (lv_at hl 2 rfl) ?_
  obtain ⟨r_1, m_2, hc_3, h⟩ := bd_some h
  refine c_V (rest := []) X hP hS (tX7_begin hI hj hc_3) (by decide) (L_plans _) rfl wt_4_99 wt_4_101 ws_2_1 wt_1_11 wt_4_102 ⟨rfl, hy_X7_begin⟩ ⟨rfl, rfl⟩ ⟨Nat.le_of_ble_eq_true rfl, Nat.le_of_ble_eq_true rfl⟩ rfl hl.1 rfl (Nat.le_of_ble_eq_true rfl) dX7_match_3 rfl (fun H locs hP hS => ?_)
  refine lv_aload_n hx hb dX7_match_6 rfl (lv_at hl 0 rfl) ?_
  refine lv_aload_n hx hb dX7_match_7 rfl (lv_at hl 0 rfl) ?_
  refine lv_iconst (v := 0) hx hb dX7_match_8 (by decide) ?_
  obtain ⟨r_4, m_5, hc_6, h⟩ := bd_some h
  refine c_V (rest := [.ref (A 64)]) X hP hS (trX7_playOn hI  6 (0 : Int32) _ _ _ hc_6) (by decide) (L_plans _) rfl wt_4_140 wt_4_142 ws_2_4 wt_1_11 wt_4_143 ⟨rfl, hy_X7_playOn⟩ ⟨rfl, rfl⟩ ⟨Nat.le_of_ble_eq_true rfl, Nat.le_of_ble_eq_true rfl⟩ rfl hl.1 rfl (Nat.le_of_ble_eq_true rfl) dX7_match_9 rfl (fun H locs hP hS => ?_)
  obtain ⟨m_7, em_8, h⟩ := lt_some h
  refine r_put kc_7 10 X hP hS (by decide) (L_plans _) (L_plans _) (by decide) wt_2_9 rfl (by decide +kernel) (Nat.le_of_ble_eq_true rfl) dX7_match_12 em_8 (fun H locs hP hS => ?_)
  exact r_vret X hP hS dX7_match_15 h

def fX11_suits (a1 : Int32) (a2 : Int32) (m : Mm) : Option (Int32 × Mm) := (if a1 < 0 then some (0, m) else (if (4 : Int32) < a1 then some (0, m) else gx a1 5 ((if a2 < (sLeast (ix a1)) then some (0, m) else (if ((sMost (ix a1)) : Int32) < a2 then some (0, m) else some (1, m))))))
set_option maxHeartbeats 4000000 in
set_option maxRecDepth 100000 in
theorem tX11_suits {l : Launch} {D : va_G} {cA : Nat → ClassId} {A : Nat → Nat} (hI : InjA cN A) {a1 : Int32} {a2 : Int32} {m m' : Mm} {r : Int32} (h : fX11_suits a1 a2 m = some (r, m')) : Met0 l yX11_suits cX11_suits 2 (some .boolean) { frames := 0, cells := 0, slots := 0, locals := 0 } cLay cN D cA A [.int a1, .int a2] m (some (.int r)) m' := by
  refine met0_of (by decide) (Nat.le_of_ble_eq_true rfl) hI ?_
  intro p e s m0 below meth c ls X hinit hP hS hl
  generalize ([.int a1, .int a2] : List Value).toArray = args at X ⊢
  have hl : lv_has ls 2 [(0, .int a1), (1, .int a2)] := hl
  have X : CX cLay cN D cA A p s m0 args meth c "BenchTowels" cX11_suits 2 (some .boolean) := X
  have hx := X.1
  have hb := X.2.1
  have hml := X.2.2.1
  have hown := X.2.2.2.1
  have hts := X.2.2.2.2.1
  have hF := X.2.2.2.2.2.2.2.2.1
  rewrite [fX11_suits] at h
  refine lv_iload_n hx hb dX11_suits_0 rfl (lv_at hl 0 rfl) ?_
  refine lv_if_lt (tgt := 31) hx hb dX11_suits_1 (by decide) (fun c_1 => ?_) (fun c_1 => ?_)
  · have h := ifp c_1 h
    refine lv_iconst (v := 0) hx hb dX11_suits_31 (by decide) ?_
    exact r_zret X (Or.inl rfl) hP hS dX11_suits_32 h
  · have h := ifn c_1 h
    refine lv_iload_n hx hb dX11_suits_4 rfl (lv_at hl 0 rfl) ?_
    refine lv_iconst (v := 4) hx hb dX11_suits_5 (by decide) ?_
    refine lv_icmp_gt (tgt := 31) hx hb dX11_suits_6 (by decide) (fun c_2 => ?_) (fun c_2 => ?_)
    · have h := ifp c_2 h
      refine lv_iconst (v := 0) hx hb dX11_suits_31 (by decide) ?_
      exact r_zret X (Or.inl rfl) hP hS dX11_suits_32 h
    · have h := ifn c_2 h
      refine lv_iload_n hx hb dX11_suits_9 rfl (lv_at hl 1 rfl) ?_
      refine va_gets hx hb hF.1.1 hS hown (hts _ wt_2_148) (fun _ q => q) dX11_suits_10 ?_
      refine lv_iload_n hx hb dX11_suits_13 rfl (lv_at hl 0 rfl) ?_
      obtain ⟨hin_3, h⟩ := gx_some h
      refine va_ti hx hb hF.1.2 hS hin_3 rfl dX11_suits_14 ?_
      refine lv_icmp_lt (tgt := 31) hx hb dX11_suits_15 (by decide) (fun c_4 => ?_) (fun c_4 => ?_)
      · have h := ifp c_4 h
        refine lv_iconst (v := 0) hx hb dX11_suits_31 (by decide) ?_
        exact r_zret X (Or.inl rfl) hP hS dX11_suits_32 h
      · have h := ifn c_4 h
        refine lv_iload_n hx hb dX11_suits_18 rfl (lv_at hl 1 rfl) ?_
        refine va_gets hx hb hF.2.1.1 hS hown (hts _ wt_2_150) (fun _ q => q) dX11_suits_19 ?_
        refine lv_iload_n hx hb dX11_suits_22 rfl (lv_at hl 0 rfl) ?_
        refine va_ti hx hb hF.2.1.2 hS hin_3 rfl dX11_suits_23 ?_
        refine lv_icmp_gt (tgt := 31) hx hb dX11_suits_24 (by decide) (fun c_5 => ?_) (fun c_5 => ?_)
        · have h := ifp c_5 h
          refine lv_iconst (v := 0) hx hb dX11_suits_31 (by decide) ?_
          exact r_zret X (Or.inl rfl) hP hS dX11_suits_32 h
        · have h := ifn c_5 h
          refine lv_iconst (v := 1) hx hb dX11_suits_27 (by decide) ?_
          refine lv_goto (tgt := 32) hx hb dX11_suits_28 (by decide) ?_
          exact r_zret X (Or.inr rfl) hP hS dX11_suits_32 h

def fX11_set_38  (x1 : Int32) (x2 : Int32) (x3 : Int32) (x4 : Int32) (s0 : Int32) (m : Mm) : Option (Int32 × Mm) := (if s0 = 0 then some ((-1), m) else (if (m (gp 0 0) 3) < 6 then bd (fX1_add 0 x1 x2 x3 x4 m) fun r_7 m_8 => some (r_7, m_8) else some ((-2), m)))
set_option maxHeartbeats 4000000 in
set_option maxRecDepth 100000 in
theorem tX11_set_38 (hI : InjA cN A)  {r : Int32} {m' : Mm} (X : CX cLay cN D cA A p s m0 args meth c "BenchTowels" cX11_set 6 (some .int)) : ∀ (x1 : Int32) (x2 : Int32) (x3 : Int32) (x4 : Int32) (s0 : Int32) (m : Mm) (H : Heap) (locs : List Loc) (ls : Array Slot), fX11_set_38 x1 x2 x3 x4 s0 m = some (r, m') → va_P D vwCl (wsOf cLay cN cA A m) H → va_S (AW cN A) s.heap H locs → lv_has ls 6 [(0, .ref (A 0)), (1, .int x1), (2, .int x2), (3, .int x3), (4, .int x4)] → W p l e { frames := 1, cells := 0, slots := 0, locals := 25 } s m0 args below meth c H locs 0 0 (ZR below args s cLay cN D cA A (some (.int r)) m') (F0 m0 38 ls [.int s0]) := by
  have hx := X.1
  have hb := X.2.1
  have hml := X.2.2.1
  have hown := X.2.2.2.1
  have hts := X.2.2.2.2.1
  have hF := X.2.2.2.2.2.2.2.2.1
  intro x1 x2 x3 x4 s0 m H locs ls h hP hS hl
  rewrite [fX11_set_38] at h
  refine lv_istore (lv' := [(5, .int s0), (0, .ref (A 0)), (1, .int x1), (2, .int x2), (3, .int x3), (4, .int x4)]) hx hb dX11_set_38 hl (by decide) rfl (fun ls hl => ?_)
  refine lv_iload hx hb dX11_set_40 (lv_at hl 0 rfl) ?_
  refine lv_if_ne (tgt := 47) hx hb dX11_set_42 (by decide) (fun c_5 => ?_) (fun c_5 => ?_)
  · have h := ifn c_5 h
    refine lv_aload_n hx hb dX11_set_47 rfl (lv_at hl 1 rfl) ?_
    refine r_get kc_11 7 X hP (by decide) (L_bt _) (by decide) rfl wt_2_102 dX11_set_48 ?_
    refine r_get kc_1 3 X hP (lt_g (by decide) (by decide)) (L_gym (by decide) _) (by decide) rfl wt_1_176 dX11_set_51 ?_
    refine lv_bipush (v := 6) hx hb dX11_set_54 (by decide) ?_
    refine lv_icmp_lt (tgt := 64) hx hb dX11_set_56 (by decide) (fun c_6 => ?_) (fun c_6 => ?_)
    · have h := ifp c_6 h
      refine lv_aload_n hx hb dX11_set_64 rfl (lv_at hl 1 rfl) ?_
      refine r_get kc_11 7 X hP (by decide) (L_bt _) (by decide) rfl wt_2_102 dX11_set_65 ?_
      refine lv_iload_n hx hb dX11_set_68 rfl (lv_at hl 2 rfl) ?_
      refine lv_iload_n hx hb dX11_set_69 rfl (lv_at hl 3 rfl) ?_
      refine lv_iload_n hx hb dX11_set_70 rfl (lv_at hl 4 rfl) ?_
      refine lv_iload hx hb dX11_set_71 (lv_at hl 5 rfl) ?_
      obtain ⟨r_7, m_8, hc_9, h⟩ := bd_some h
      refine c_V (rest := []) X hP hS (tX1_add hI (by decide) hc_9) (lt_g (by decide) (by decide)) (L_gym (by decide) _) rfl wt_2_152 wt_2_153 wt_2_154 wt_1_10 wt_2_155 ⟨rfl, hy_X1_add⟩ ⟨rfl, rfl⟩ ⟨Nat.le_of_ble_eq_true rfl, Nat.le_of_ble_eq_true rfl⟩ rfl hl.1 rfl (Nat.le_of_ble_eq_true rfl) dX11_set_73 rfl (fun H locs hP hS => ?_)
      exact r_iret X hP hS dX11_set_76 h
    · have h := ifn c_6 h
      refine lv_bipush (v := (-2)) hx hb dX11_set_59 (by decide) ?_
      refine lv_goto (tgt := 76) hx hb dX11_set_61 (by decide) ?_
      exact r_iret X hP hS dX11_set_76 h
  · have h := ifp c_5 h
    refine lv_iconst (v := (-1)) hx hb dX11_set_45 (by decide) ?_
    exact r_iret X hP hS dX11_set_46 h

def fX11_set (a1 : Int32) (a2 : Int32) (a3 : Int32) (a4 : Int32) (m : Mm) : Option (Int32 × Mm) := bd (fX11_suits (0 : Int32) a1 m) fun r_1 m_2 => (if r_1 = 0 then (fX11_set_38  a1 a2 a3 a4 0 m_2) else bd (fX11_suits (1 : Int32) a2 m_2) fun r_10 m_11 => (if r_10 = 0 then (fX11_set_38  a1 a2 a3 a4 0 m_11) else bd (fX11_suits (2 : Int32) a3 m_11) fun r_14 m_15 => (if r_14 = 0 then (fX11_set_38  a1 a2 a3 a4 0 m_15) else bd (fX11_suits (3 : Int32) a4 m_15) fun r_18 m_19 => (if r_18 = 0 then (fX11_set_38  a1 a2 a3 a4 0 m_19) else (fX11_set_38  a1 a2 a3 a4 1 m_19)))))
set_option maxHeartbeats 4000000 in
set_option maxRecDepth 100000 in
theorem tX11_set {l : Launch} {D : va_G} {cA : Nat → ClassId} {A : Nat → Nat} (hI : InjA cN A) {a1 : Int32} {a2 : Int32} {a3 : Int32} {a4 : Int32} {m m' : Mm} {r : Int32} (h : fX11_set a1 a2 a3 a4 m = some (r, m')) : Met0 l yX11_set cX11_set 6 (some .int) { frames := 1, cells := 0, slots := 0, locals := 25 } cLay cN D cA A [.ref (A 0), .int a1, .int a2, .int a3, .int a4] m (some (.int r)) m' := by
  refine met0_of (by decide) (Nat.le_of_ble_eq_true rfl) hI ?_
  intro p e s m0 below meth c ls X hinit hP hS hl
  generalize ([.ref (A 0), .int a1, .int a2, .int a3, .int a4] : List Value).toArray = args at X ⊢
  have hl : lv_has ls 6 [(0, .ref (A 0)), (1, .int a1), (2, .int a2), (3, .int a3), (4, .int a4)] := hl
  have X : CX cLay cN D cA A p s m0 args meth c "BenchTowels" cX11_set 6 (some .int) := X
  have hx := X.1
  have hb := X.2.1
  have hml := X.2.2.1
  have hown := X.2.2.2.1
  have hts := X.2.2.2.2.1
  have hF := X.2.2.2.2.2.2.2.2.1
  rewrite [fX11_set] at h
  refine lv_iconst (v := 0) hx hb dX11_set_0 (by decide) ?_
  refine lv_iload_n hx hb dX11_set_1 rfl (lv_at hl 1 rfl) ?_
  obtain ⟨r_1, m_2, hc_3, h⟩ := bd_some h
  refine c_S (rest := []) X hP hS (tX11_suits hI  hc_3) wt_2_145 wt_2_146 wt_1_1 wt_2_147 hy_X11_suits ⟨rfl, rfl⟩ ⟨Nat.le_of_ble_eq_true rfl, Nat.le_of_ble_eq_true rfl⟩ rfl hl.1 rfl (Nat.le_of_ble_eq_true rfl) dX11_set_2 rfl (fun H locs hP hS => ?_)
  refine lv_if_eq (tgt := 37) hx hb dX11_set_5 (by decide) (fun c_4 => ?_) (fun c_4 => ?_)
  · have h := ifp c_4 h
    refine lv_iconst (v := 0) hx hb dX11_set_37 (by decide) ?_
    exact tX11_set_38 hI    X a1 a2 a3 a4 0 m_2 _ _ _  h hP hS (lv_sub hl [0, 1, 2, 3, 4] rfl)
  · have h := ifn c_4 h
    refine lv_iconst (v := 1) hx hb dX11_set_8 (by decide) ?_
    refine lv_iload_n hx hb dX11_set_9 rfl (lv_at hl 2 rfl) ?_
    obtain ⟨r_10, m_11, hc_12, h⟩ := bd_some h
    refine c_S (rest := []) X hP hS (tX11_suits hI  hc_12) wt_2_145 wt_2_146 wt_1_1 wt_2_147 hy_X11_suits ⟨rfl, rfl⟩ ⟨Nat.le_of_ble_eq_true rfl, Nat.le_of_ble_eq_true rfl⟩ rfl hl.1 rfl (Nat.le_of_ble_eq_true rfl) dX11_set_10 rfl (fun H locs hP hS => ?_)
    refine lv_if_eq (tgt := 37) hx hb dX11_set_13 (by decide) (fun c_13 => ?_) (fun c_13 => ?_)
    · have h := ifp c_13 h
      refine lv_iconst (v := 0) hx hb dX11_set_37 (by decide) ?_
      exact tX11_set_38 hI    X a1 a2 a3 a4 0 m_11 _ _ _  h hP hS (lv_sub hl [0, 1, 2, 3, 4] rfl)
    · have h := ifn c_13 h
      refine lv_iconst (v := 2) hx hb dX11_set_16 (by decide) ?_
      refine lv_iload_n hx hb dX11_set_17 rfl (lv_at hl 3 rfl) ?_
      obtain ⟨r_14, m_15, hc_16, h⟩ := bd_some h
      refine c_S (rest := []) X hP hS (tX11_suits hI  hc_16) wt_2_145 wt_2_146 wt_1_1 wt_2_147 hy_X11_suits ⟨rfl, rfl⟩ ⟨Nat.le_of_ble_eq_true rfl, Nat.le_of_ble_eq_true rfl⟩ rfl hl.1 rfl (Nat.le_of_ble_eq_true rfl) dX11_set_18 rfl (fun H locs hP hS => ?_)
      refine lv_if_eq (tgt := 37) hx hb dX11_set_21 (by decide) (fun c_17 => ?_) (fun c_17 => ?_)
      · have h := ifp c_17 h
        refine lv_iconst (v := 0) hx hb dX11_set_37 (by decide) ?_
        exact tX11_set_38 hI    X a1 a2 a3 a4 0 m_15 _ _ _  h hP hS (lv_sub hl [0, 1, 2, 3, 4] rfl)
      · have h := ifn c_17 h
        refine lv_iconst (v := 3) hx hb dX11_set_24 (by decide) ?_
        refine lv_iload hx hb dX11_set_25 (lv_at hl 4 rfl) ?_
        obtain ⟨r_18, m_19, hc_20, h⟩ := bd_some h
        refine c_S (rest := []) X hP hS (tX11_suits hI  hc_20) wt_2_145 wt_2_146 wt_1_1 wt_2_147 hy_X11_suits ⟨rfl, rfl⟩ ⟨Nat.le_of_ble_eq_true rfl, Nat.le_of_ble_eq_true rfl⟩ rfl hl.1 rfl (Nat.le_of_ble_eq_true rfl) dX11_set_27 rfl (fun H locs hP hS => ?_)
        refine lv_if_eq (tgt := 37) hx hb dX11_set_30 (by decide) (fun c_21 => ?_) (fun c_21 => ?_)
        · have h := ifp c_21 h
          refine lv_iconst (v := 0) hx hb dX11_set_37 (by decide) ?_
          exact tX11_set_38 hI    X a1 a2 a3 a4 0 m_19 _ _ _  h hP hS (lv_sub hl [0, 1, 2, 3, 4] rfl)
        · have h := ifn c_21 h
          refine lv_iconst (v := 1) hx hb dX11_set_33 (by decide) ?_
          refine lv_goto (tgt := 38) hx hb dX11_set_34 (by decide) ?_
          exact tX11_set_38 hI    X a1 a2 a3 a4 1 m_19 _ _ _  h hP hS (lv_sub hl [0, 1, 2, 3, 4] rfl)

def fX11_setOf (a1 : Int32) (a2 : Int32) (m : Mm) : Option (Int32 × Mm) := bd (fX1_has 0 a1 m) fun r_1 m_2 => (if r_1 = 0 then some ((-1), m_2) else (if a2 < 0 then some ((-1), m_2) else (if a2 ≤ 8 then (if (4 : Int32) < a2 then (if a2 = 5 then bd (fX1_mayIn 0 a1 (m_2 (gp 0 0) 6) m_2) fun r_20 m_21 => (if r_20 = 0 then some (0, m_21) else some (1, m_21)) else (if a2 = 6 then bd (fX1_gains 0 a1 m_2) fun r_17 m_18 => some (r_17, m_18) else (if a2 = 7 then bd (fX1_tires 0 a1 m_2) fun r_14 m_15 => some (r_14, m_15) else bd (fX1_will 0 a1 m_2) fun r_11 m_12 => some (r_11, m_12)))) else gx a2 5 (gx a1 6 (some ((m_2 (gp 0 (2 + (ix a2))) (ix a1)), m_2)))) else some ((-1), m_2))))
set_option maxHeartbeats 4000000 in
set_option maxRecDepth 100000 in
theorem tX11_setOf {l : Launch} {D : va_G} {cA : Nat → ClassId} {A : Nat → Nat} (hI : InjA cN A) {a1 : Int32} {a2 : Int32} {m m' : Mm} {r : Int32} (h : fX11_setOf a1 a2 m = some (r, m')) : Met0 l yX11_setOf cX11_setOf 3 (some .int) { frames := 4, cells := 0, slots := 0, locals := 95 } cLay cN D cA A [.ref (A 0), .int a1, .int a2] m (some (.int r)) m' := by
  refine met0_of (by decide) (Nat.le_of_ble_eq_true rfl) hI ?_
  intro p e s m0 below meth c ls X hinit hP hS hl
  generalize ([.ref (A 0), .int a1, .int a2] : List Value).toArray = args at X ⊢
  have hl : lv_has ls 3 [(0, .ref (A 0)), (1, .int a1), (2, .int a2)] := hl
  have X : CX cLay cN D cA A p s m0 args meth c "BenchTowels" cX11_setOf 3 (some .int) := X
  have hx := X.1
  have hb := X.2.1
  have hml := X.2.2.1
  have hown := X.2.2.2.1
  have hts := X.2.2.2.2.1
  have hF := X.2.2.2.2.2.2.2.2.1
  rewrite [fX11_setOf] at h
  refine lv_aload_n hx hb dX11_setOf_0 rfl (lv_at hl 0 rfl) ?_
  refine r_get kc_11 7 X hP (by decide) (L_bt _) (by decide) rfl wt_2_102 dX11_setOf_1 ?_
  refine lv_iload_n hx hb dX11_setOf_4 rfl (lv_at hl 1 rfl) ?_
  obtain ⟨r_1, m_2, hc_3, h⟩ := bd_some h
  refine c_V (rest := []) X hP hS (tX1_has hI (by decide) hc_3) (lt_g (by decide) (by decide)) (L_gym (by decide) _) rfl wt_2_160 wt_2_161 wt_2_162 wt_1_10 wt_2_163 ⟨rfl, hy_X1_has⟩ ⟨rfl, rfl⟩ ⟨Nat.le_of_ble_eq_true rfl, Nat.le_of_ble_eq_true rfl⟩ rfl hl.1 rfl (Nat.le_of_ble_eq_true rfl) dX11_setOf_5 rfl (fun H locs hP hS => ?_)
  refine lv_if_eq (tgt := 21) hx hb dX11_setOf_8 (by decide) (fun c_4 => ?_) (fun c_4 => ?_)
  · have h := ifp c_4 h
    refine lv_iconst (v := (-1)) hx hb dX11_setOf_21 (by decide) ?_
    exact r_iret X hP hS dX11_setOf_22 h
  · have h := ifn c_4 h
    refine lv_iload_n hx hb dX11_setOf_11 rfl (lv_at hl 2 rfl) ?_
    refine lv_if_lt (tgt := 21) hx hb dX11_setOf_12 (by decide) (fun c_5 => ?_) (fun c_5 => ?_)
    · have h := ifp c_5 h
      refine lv_iconst (v := (-1)) hx hb dX11_setOf_21 (by decide) ?_
      exact r_iret X hP hS dX11_setOf_22 h
    · have h := ifn c_5 h
      refine lv_iload_n hx hb dX11_setOf_15 rfl (lv_at hl 2 rfl) ?_
      refine lv_bipush (v := 8) hx hb dX11_setOf_16 (by decide) ?_
      refine lv_icmp_le (tgt := 23) hx hb dX11_setOf_18 (by decide) (fun c_6 => ?_) (fun c_6 => ?_)
      · have h := ifp c_6 h
        refine lv_iload_n hx hb dX11_setOf_23 rfl (lv_at hl 2 rfl) ?_
        refine lv_iconst (v := 4) hx hb dX11_setOf_24 (by decide) ?_
        refine lv_icmp_gt (tgt := 40) hx hb dX11_setOf_25 (by decide) (fun c_7 => ?_) (fun c_7 => ?_)
        · have h := ifp c_7 h
          refine lv_iload_n hx hb dX11_setOf_40 rfl (lv_at hl 2 rfl) ?_
          refine lv_iconst (v := 5) hx hb dX11_setOf_41 (by decide) ?_
          refine lv_icmp_ne (tgt := 69) hx hb dX11_setOf_42 (by decide) (fun c_8 => ?_) (fun c_8 => ?_)
          · have h := ifn c_8 h
            refine lv_iload_n hx hb dX11_setOf_69 rfl (lv_at hl 2 rfl) ?_
            refine lv_bipush (v := 6) hx hb dX11_setOf_70 (by decide) ?_
            refine lv_icmp_ne (tgt := 84) hx hb dX11_setOf_72 (by decide) (fun c_9 => ?_) (fun c_9 => ?_)
            · have h := ifn c_9 h
              refine lv_iload_n hx hb dX11_setOf_84 rfl (lv_at hl 2 rfl) ?_
              refine lv_bipush (v := 7) hx hb dX11_setOf_85 (by decide) ?_
              refine lv_icmp_ne (tgt := 101) hx hb dX11_setOf_87 (by decide) (fun c_10 => ?_) (fun c_10 => ?_)
              · have h := ifn c_10 h
                refine lv_aload_n hx hb dX11_setOf_101 rfl (lv_at hl 0 rfl) ?_
                refine r_get kc_11 7 X hP (by decide) (L_bt _) (by decide) rfl wt_2_102 dX11_setOf_102 ?_
                refine lv_iload_n hx hb dX11_setOf_105 rfl (lv_at hl 1 rfl) ?_
                obtain ⟨r_11, m_12, hc_13, h⟩ := bd_some h
                refine c_V (rest := []) X hP hS (tX1_will hI (by decide) hc_13) (lt_g (by decide) (by decide)) (L_gym (by decide) _) rfl wt_3_9 wt_3_10 wt_3_11 wt_1_10 wt_3_12 ⟨rfl, hy_X1_will⟩ ⟨rfl, rfl⟩ ⟨Nat.le_of_ble_eq_true rfl, Nat.le_of_ble_eq_true rfl⟩ rfl hl.1 rfl (Nat.le_of_ble_eq_true rfl) dX11_setOf_106 rfl (fun H locs hP hS => ?_)
                exact r_iret X hP hS dX11_setOf_109 h
              · have h := ifp c_10 h
                refine lv_aload_n hx hb dX11_setOf_90 rfl (lv_at hl 0 rfl) ?_
                refine r_get kc_11 7 X hP (by decide) (L_bt _) (by decide) rfl wt_2_102 dX11_setOf_91 ?_
                refine lv_iload_n hx hb dX11_setOf_94 rfl (lv_at hl 1 rfl) ?_
                obtain ⟨r_14, m_15, hc_16, h⟩ := bd_some h
                refine c_V (rest := []) X hP hS (tX1_tires hI (by decide) hc_16) (lt_g (by decide) (by decide)) (L_gym (by decide) _) rfl wt_2_226 wt_2_227 wt_2_228 wt_1_10 wt_2_229 ⟨rfl, hy_X1_tires⟩ ⟨rfl, rfl⟩ ⟨Nat.le_of_ble_eq_true rfl, Nat.le_of_ble_eq_true rfl⟩ rfl hl.1 rfl (Nat.le_of_ble_eq_true rfl) dX11_setOf_95 rfl (fun H locs hP hS => ?_)
                refine lv_goto (tgt := 109) hx hb dX11_setOf_98 (by decide) ?_
                exact r_iret X hP hS dX11_setOf_109 h
            · have h := ifp c_9 h
              refine lv_aload_n hx hb dX11_setOf_75 rfl (lv_at hl 0 rfl) ?_
              refine r_get kc_11 7 X hP (by decide) (L_bt _) (by decide) rfl wt_2_102 dX11_setOf_76 ?_
              refine lv_iload_n hx hb dX11_setOf_79 rfl (lv_at hl 1 rfl) ?_
              obtain ⟨r_17, m_18, hc_19, h⟩ := bd_some h
              refine c_V (rest := []) X hP hS (tX1_gains hI (by decide) hc_19) (lt_g (by decide) (by decide)) (L_gym (by decide) _) rfl wt_2_198 wt_2_199 wt_2_200 wt_1_10 wt_2_201 ⟨rfl, hy_X1_gains⟩ ⟨rfl, rfl⟩ ⟨Nat.le_of_ble_eq_true rfl, Nat.le_of_ble_eq_true rfl⟩ rfl hl.1 rfl (Nat.le_of_ble_eq_true rfl) dX11_setOf_80 rfl (fun H locs hP hS => ?_)
              exact r_iret X hP hS dX11_setOf_83 h
          · have h := ifp c_8 h
            refine lv_aload_n hx hb dX11_setOf_45 rfl (lv_at hl 0 rfl) ?_
            refine r_get kc_11 7 X hP (by decide) (L_bt _) (by decide) rfl wt_2_102 dX11_setOf_46 ?_
            refine lv_iload_n hx hb dX11_setOf_49 rfl (lv_at hl 1 rfl) ?_
            refine lv_aload_n hx hb dX11_setOf_50 rfl (lv_at hl 0 rfl) ?_
            refine r_get kc_11 7 X hP (by decide) (L_bt _) (by decide) rfl wt_2_102 dX11_setOf_51 ?_
            refine r_get kc_1 6 X hP (lt_g (by decide) (by decide)) (L_gym (by decide) _) (by decide) rfl wt_1_183 dX11_setOf_54 ?_
            obtain ⟨r_20, m_21, hc_22, h⟩ := bd_some h
            refine c_V (rest := []) X hP hS (tX1_mayIn hI (by decide) hc_22) (lt_g (by decide) (by decide)) (L_gym (by decide) _) rfl wt_2_164 wt_2_165 wt_2_166 wt_1_10 wt_2_167 ⟨rfl, hy_X1_mayIn⟩ ⟨rfl, rfl⟩ ⟨Nat.le_of_ble_eq_true rfl, Nat.le_of_ble_eq_true rfl⟩ rfl hl.1 rfl (Nat.le_of_ble_eq_true rfl) dX11_setOf_57 rfl (fun H locs hP hS => ?_)
            refine lv_if_eq (tgt := 67) hx hb dX11_setOf_60 (by decide) (fun c_23 => ?_) (fun c_23 => ?_)
            · have h := ifp c_23 h
              refine lv_iconst (v := 0) hx hb dX11_setOf_67 (by decide) ?_
              exact r_iret X hP hS dX11_setOf_68 h
            · have h := ifn c_23 h
              refine lv_iconst (v := 1) hx hb dX11_setOf_63 (by decide) ?_
              refine lv_goto (tgt := 68) hx hb dX11_setOf_64 (by decide) ?_
              exact r_iret X hP hS dX11_setOf_68 h
        · have h := ifn c_7 h
          refine lv_aload_n hx hb dX11_setOf_28 rfl (lv_at hl 0 rfl) ?_
          refine r_get kc_11 7 X hP (by decide) (L_bt _) (by decide) rfl wt_2_102 dX11_setOf_29 ?_
          refine r_get kc_1 2 X hP (lt_g (by decide) (by decide)) (L_gym (by decide) _) (by decide) rfl wt_1_173 dX11_setOf_32 ?_
          refine lv_iload_n hx hb dX11_setOf_35 rfl (lv_at hl 2 rfl) ?_
          obtain ⟨hin_24, h⟩ := gx_some h
          have q_25 := vp_lt hin_24
          refine r_row (q' := (gp 0 (2 + (ix a2)))) X hP (lt_g (by decide) (by decide)) ((Lq_g_1 (by decide)) _) hin_24 rfl q_25 rfl dX11_setOf_36 ?_
          refine lv_iload_n hx hb dX11_setOf_37 rfl (lv_at hl 1 rfl) ?_
          obtain ⟨hin_26, h⟩ := gx_some h
          refine r_iald X hP (lt_g2 (j := (ix a2)) (by decide) q_25) ((La_g_row (j := (ix a2)) (by decide) q_25) _) hin_26 rfl dX11_setOf_38 ?_
          exact r_iret X hP hS dX11_setOf_39 h
      · have h := ifn c_6 h
        refine lv_iconst (v := (-1)) hx hb dX11_setOf_21 (by decide) ?_
        exact r_iret X hP hS dX11_setOf_22 h

def fX11_change (a1 : Int32) (a2 : Int32) (a3 : Int32) (m : Mm) : Option (Int32 × Mm) := bd (fX1_has 0 a1 m) fun r_1 m_2 => (if r_1 = 0 then some ((-1), m_2) else (if a2 < 1 then some ((-1), m_2) else bd (fX11_suits a2 a3 m_2) fun r_6 m_7 => (if r_6 = 0 then some ((-1), m_7) else bd (fX1_alterSet 0 a1 a2 a3 m_7) fun r_10 m_11 => some (r_10, m_11))))
set_option maxHeartbeats 4000000 in
set_option maxRecDepth 100000 in
theorem tX11_change {l : Launch} {D : va_G} {cA : Nat → ClassId} {A : Nat → Nat} (hI : InjA cN A) {a1 : Int32} {a2 : Int32} {a3 : Int32} {m m' : Mm} {r : Int32} (h : fX11_change a1 a2 a3 m = some (r, m')) : Met0 l yX11_change cX11_change 4 (some .int) { frames := 1, cells := 0, slots := 0, locals := 24 } cLay cN D cA A [.ref (A 0), .int a1, .int a2, .int a3] m (some (.int r)) m' := by
  refine met0_of (by decide) (Nat.le_of_ble_eq_true rfl) hI ?_
  intro p e s m0 below meth c ls X hinit hP hS hl
  generalize ([.ref (A 0), .int a1, .int a2, .int a3] : List Value).toArray = args at X ⊢
  have hl : lv_has ls 4 [(0, .ref (A 0)), (1, .int a1), (2, .int a2), (3, .int a3)] := hl
  have X : CX cLay cN D cA A p s m0 args meth c "BenchTowels" cX11_change 4 (some .int) := X
  have hx := X.1
  have hb := X.2.1
  have hml := X.2.2.1
  have hown := X.2.2.2.1
  have hts := X.2.2.2.2.1
  have hF := X.2.2.2.2.2.2.2.2.1
  rewrite [fX11_change] at h
  refine lv_aload_n hx hb dX11_change_0 rfl (lv_at hl 0 rfl) ?_
  refine r_get kc_11 7 X hP (by decide) (L_bt _) (by decide) rfl wt_2_102 dX11_change_1 ?_
  refine lv_iload_n hx hb dX11_change_4 rfl (lv_at hl 1 rfl) ?_
  obtain ⟨r_1, m_2, hc_3, h⟩ := bd_some h
  refine c_V (rest := []) X hP hS (tX1_has hI (by decide) hc_3) (lt_g (by decide) (by decide)) (L_gym (by decide) _) rfl wt_2_160 wt_2_161 wt_2_162 wt_1_10 wt_2_163 ⟨rfl, hy_X1_has⟩ ⟨rfl, rfl⟩ ⟨Nat.le_of_ble_eq_true rfl, Nat.le_of_ble_eq_true rfl⟩ rfl hl.1 rfl (Nat.le_of_ble_eq_true rfl) dX11_change_5 rfl (fun H locs hP hS => ?_)
  refine lv_if_eq (tgt := 24) hx hb dX11_change_8 (by decide) (fun c_4 => ?_) (fun c_4 => ?_)
  · have h := ifp c_4 h
    refine lv_iconst (v := (-1)) hx hb dX11_change_24 (by decide) ?_
    exact r_iret X hP hS dX11_change_25 h
  · have h := ifn c_4 h
    refine lv_iload_n hx hb dX11_change_11 rfl (lv_at hl 2 rfl) ?_
    refine lv_iconst (v := 1) hx hb dX11_change_12 (by decide) ?_
    refine lv_icmp_lt (tgt := 24) hx hb dX11_change_13 (by decide) (fun c_5 => ?_) (fun c_5 => ?_)
    · have h := ifp c_5 h
      refine lv_iconst (v := (-1)) hx hb dX11_change_24 (by decide) ?_
      exact r_iret X hP hS dX11_change_25 h
    · have h := ifn c_5 h
      refine lv_iload_n hx hb dX11_change_16 rfl (lv_at hl 2 rfl) ?_
      refine lv_iload_n hx hb dX11_change_17 rfl (lv_at hl 3 rfl) ?_
      obtain ⟨r_6, m_7, hc_8, h⟩ := bd_some h
      refine c_S (rest := []) X hP hS (tX11_suits hI  hc_8) wt_2_145 wt_2_146 wt_1_1 wt_2_147 hy_X11_suits ⟨rfl, rfl⟩ ⟨Nat.le_of_ble_eq_true rfl, Nat.le_of_ble_eq_true rfl⟩ rfl hl.1 rfl (Nat.le_of_ble_eq_true rfl) dX11_change_18 rfl (fun H locs hP hS => ?_)
      refine lv_if_ne (tgt := 26) hx hb dX11_change_21 (by decide) (fun c_9 => ?_) (fun c_9 => ?_)
      · have h := ifn c_9 h
        refine lv_aload_n hx hb dX11_change_26 rfl (lv_at hl 0 rfl) ?_
        refine r_get kc_11 7 X hP (by decide) (L_bt _) (by decide) rfl wt_2_102 dX11_change_27 ?_
        refine lv_iload_n hx hb dX11_change_30 rfl (lv_at hl 1 rfl) ?_
        refine lv_iload_n hx hb dX11_change_31 rfl (lv_at hl 2 rfl) ?_
        refine lv_iload_n hx hb dX11_change_32 rfl (lv_at hl 3 rfl) ?_
        obtain ⟨r_10, m_11, hc_12, h⟩ := bd_some h
        refine c_V (rest := []) X hP hS (tX1_alterSet hI (by decide) hc_12) (lt_g (by decide) (by decide)) (L_gym (by decide) _) rfl wt_3_32 wt_3_33 wt_3_34 wt_1_10 wt_3_35 ⟨rfl, hy_X1_alterSet⟩ ⟨rfl, rfl⟩ ⟨Nat.le_of_ble_eq_true rfl, Nat.le_of_ble_eq_true rfl⟩ rfl hl.1 rfl (Nat.le_of_ble_eq_true rfl) dX11_change_33 rfl (fun H locs hP hS => ?_)
        exact r_iret X hP hS dX11_change_36 h
      · have h := ifp c_9 h
        refine lv_iconst (v := (-1)) hx hb dX11_change_24 (by decide) ?_
        exact r_iret X hP hS dX11_change_25 h

def fX11_remake (a1 : Int32) (a2 : Int32) (m : Mm) : Option (Int32 × Mm) := bd (fX1_has 0 a1 m) fun r_1 m_2 => (if r_1 = 0 then some ((-1), m_2) else bd (fX11_suits (0 : Int32) a2 m_2) fun r_5 m_6 => (if r_5 = 0 then some ((-1), m_6) else bd (fX1_alterSet 0 a1 (0 : Int32) a2 m_6) fun r_9 m_10 => some (r_9, m_10)))
set_option maxHeartbeats 4000000 in
set_option maxRecDepth 100000 in
theorem tX11_remake {l : Launch} {D : va_G} {cA : Nat → ClassId} {A : Nat → Nat} (hI : InjA cN A) {a1 : Int32} {a2 : Int32} {m m' : Mm} {r : Int32} (h : fX11_remake a1 a2 m = some (r, m')) : Met0 l yX11_remake cX11_remake 3 (some .int) { frames := 1, cells := 0, slots := 0, locals := 24 } cLay cN D cA A [.ref (A 0), .int a1, .int a2] m (some (.int r)) m' := by
  refine met0_of (by decide) (Nat.le_of_ble_eq_true rfl) hI ?_
  intro p e s m0 below meth c ls X hinit hP hS hl
  generalize ([.ref (A 0), .int a1, .int a2] : List Value).toArray = args at X ⊢
  have hl : lv_has ls 3 [(0, .ref (A 0)), (1, .int a1), (2, .int a2)] := hl
  have X : CX cLay cN D cA A p s m0 args meth c "BenchTowels" cX11_remake 3 (some .int) := X
  have hx := X.1
  have hb := X.2.1
  have hml := X.2.2.1
  have hown := X.2.2.2.1
  have hts := X.2.2.2.2.1
  have hF := X.2.2.2.2.2.2.2.2.1
  rewrite [fX11_remake] at h
  refine lv_aload_n hx hb dX11_remake_0 rfl (lv_at hl 0 rfl) ?_
  refine r_get kc_11 7 X hP (by decide) (L_bt _) (by decide) rfl wt_2_102 dX11_remake_1 ?_
  refine lv_iload_n hx hb dX11_remake_4 rfl (lv_at hl 1 rfl) ?_
  obtain ⟨r_1, m_2, hc_3, h⟩ := bd_some h
  refine c_V (rest := []) X hP hS (tX1_has hI (by decide) hc_3) (lt_g (by decide) (by decide)) (L_gym (by decide) _) rfl wt_2_160 wt_2_161 wt_2_162 wt_1_10 wt_2_163 ⟨rfl, hy_X1_has⟩ ⟨rfl, rfl⟩ ⟨Nat.le_of_ble_eq_true rfl, Nat.le_of_ble_eq_true rfl⟩ rfl hl.1 rfl (Nat.le_of_ble_eq_true rfl) dX11_remake_5 rfl (fun H locs hP hS => ?_)
  refine lv_if_eq (tgt := 19) hx hb dX11_remake_8 (by decide) (fun c_4 => ?_) (fun c_4 => ?_)
  · have h := ifp c_4 h
    refine lv_iconst (v := (-1)) hx hb dX11_remake_19 (by decide) ?_
    exact r_iret X hP hS dX11_remake_20 h
  · have h := ifn c_4 h
    refine lv_iconst (v := 0) hx hb dX11_remake_11 (by decide) ?_
    refine lv_iload_n hx hb dX11_remake_12 rfl (lv_at hl 2 rfl) ?_
    obtain ⟨r_5, m_6, hc_7, h⟩ := bd_some h
    refine c_S (rest := []) X hP hS (tX11_suits hI  hc_7) wt_2_145 wt_2_146 wt_1_1 wt_2_147 hy_X11_suits ⟨rfl, rfl⟩ ⟨Nat.le_of_ble_eq_true rfl, Nat.le_of_ble_eq_true rfl⟩ rfl hl.1 rfl (Nat.le_of_ble_eq_true rfl) dX11_remake_13 rfl (fun H locs hP hS => ?_)
    refine lv_if_ne (tgt := 21) hx hb dX11_remake_16 (by decide) (fun c_8 => ?_) (fun c_8 => ?_)
    · have h := ifn c_8 h
      refine lv_aload_n hx hb dX11_remake_21 rfl (lv_at hl 0 rfl) ?_
      refine r_get kc_11 7 X hP (by decide) (L_bt _) (by decide) rfl wt_2_102 dX11_remake_22 ?_
      refine lv_iload_n hx hb dX11_remake_25 rfl (lv_at hl 1 rfl) ?_
      refine lv_iconst (v := 0) hx hb dX11_remake_26 (by decide) ?_
      refine lv_iload_n hx hb dX11_remake_27 rfl (lv_at hl 2 rfl) ?_
      obtain ⟨r_9, m_10, hc_11, h⟩ := bd_some h
      refine c_V (rest := []) X hP hS (tX1_alterSet hI (by decide) hc_11) (lt_g (by decide) (by decide)) (L_gym (by decide) _) rfl wt_3_32 wt_3_33 wt_3_34 wt_1_10 wt_3_35 ⟨rfl, hy_X1_alterSet⟩ ⟨rfl, rfl⟩ ⟨Nat.le_of_ble_eq_true rfl, Nat.le_of_ble_eq_true rfl⟩ rfl hl.1 rfl (Nat.le_of_ble_eq_true rfl) dX11_remake_28 rfl (fun H locs hP hS => ?_)
      exact r_iret X hP hS dX11_remake_31 h
    · have h := ifp c_8 h
      refine lv_iconst (v := (-1)) hx hb dX11_remake_19 (by decide) ?_
      exact r_iret X hP hS dX11_remake_20 h

def fX11_isMachine (a1 : Int32) (a2 : Int32) (m : Mm) : Option (Int32 × Mm) := (if a1 < 0 then some (0, m) else (if (6 : Int32) ≤ a1 then some (0, m) else (if a2 = 0 then some (1, m) else (if a2 = 1 then some (1, m) else some (0, m)))))
set_option maxHeartbeats 4000000 in
set_option maxRecDepth 100000 in
theorem tX11_isMachine {l : Launch} {D : va_G} {cA : Nat → ClassId} {A : Nat → Nat} (hI : InjA cN A) {a1 : Int32} {a2 : Int32} {m m' : Mm} {r : Int32} (h : fX11_isMachine a1 a2 m = some (r, m')) : Met0 l yX11_isMachine cX11_isMachine 2 (some .boolean) { frames := 0, cells := 0, slots := 0, locals := 0 } cLay cN D cA A [.int a1, .int a2] m (some (.int r)) m' := by
  refine met0_of (by decide) (Nat.le_of_ble_eq_true rfl) hI ?_
  intro p e s m0 below meth c ls X hinit hP hS hl
  generalize ([.int a1, .int a2] : List Value).toArray = args at X ⊢
  have hl : lv_has ls 2 [(0, .int a1), (1, .int a2)] := hl
  have X : CX cLay cN D cA A p s m0 args meth c "BenchTowels" cX11_isMachine 2 (some .boolean) := X
  have hx := X.1
  have hb := X.2.1
  have hml := X.2.2.1
  have hown := X.2.2.2.1
  have hts := X.2.2.2.2.1
  have hF := X.2.2.2.2.2.2.2.2.1
  rewrite [fX11_isMachine] at h
  refine lv_iload_n hx hb dX11_isMachine_0 rfl (lv_at hl 0 rfl) ?_
  refine lv_if_lt (tgt := 23) hx hb dX11_isMachine_1 (by decide) (fun c_1 => ?_) (fun c_1 => ?_)
  · have h := ifp c_1 h
    refine lv_iconst (v := 0) hx hb dX11_isMachine_23 (by decide) ?_
    exact r_zret X (Or.inl rfl) hP hS dX11_isMachine_24 h
  · have h := ifn c_1 h
    refine lv_iload_n hx hb dX11_isMachine_4 rfl (lv_at hl 0 rfl) ?_
    refine lv_bipush (v := 6) hx hb dX11_isMachine_5 (by decide) ?_
    refine lv_icmp_ge (tgt := 23) hx hb dX11_isMachine_7 (by decide) (fun c_2 => ?_) (fun c_2 => ?_)
    · have h := ifp c_2 h
      refine lv_iconst (v := 0) hx hb dX11_isMachine_23 (by decide) ?_
      exact r_zret X (Or.inl rfl) hP hS dX11_isMachine_24 h
    · have h := ifn c_2 h
      refine lv_iload_n hx hb dX11_isMachine_10 rfl (lv_at hl 1 rfl) ?_
      refine lv_if_eq (tgt := 19) hx hb dX11_isMachine_11 (by decide) (fun c_3 => ?_) (fun c_3 => ?_)
      · have h := ifp c_3 h
        refine lv_iconst (v := 1) hx hb dX11_isMachine_19 (by decide) ?_
        refine lv_goto (tgt := 24) hx hb dX11_isMachine_20 (by decide) ?_
        exact r_zret X (Or.inr rfl) hP hS dX11_isMachine_24 h
      · have h := ifn c_3 h
        refine lv_iload_n hx hb dX11_isMachine_14 rfl (lv_at hl 1 rfl) ?_
        refine lv_iconst (v := 1) hx hb dX11_isMachine_15 (by decide) ?_
        refine lv_icmp_ne (tgt := 23) hx hb dX11_isMachine_16 (by decide) (fun c_4 => ?_) (fun c_4 => ?_)
        · have h := ifn c_4 h
          refine lv_iconst (v := 0) hx hb dX11_isMachine_23 (by decide) ?_
          exact r_zret X (Or.inl rfl) hP hS dX11_isMachine_24 h
        · have h := ifp c_4 h
          refine lv_iconst (v := 1) hx hb dX11_isMachine_19 (by decide) ?_
          refine lv_goto (tgt := 24) hx hb dX11_isMachine_20 (by decide) ?_
          exact r_zret X (Or.inr rfl) hP hS dX11_isMachine_24 h

def fX11_machine (a1 : Int32) (a2 : Int32) (a3 : Int32) (m : Mm) : Option (Int32 × Mm) := bd (fX11_isMachine a1 a2 m) fun r_1 m_2 => (if r_1 = 0 then some ((-1), m_2) else (if a3 < 0 then some ((-1), m_2) else gx a2 2 ((if a3 ≤ (sMach (ix a2)) then gx a1 6 (lt (m_2 (gp 0 (8 + (ix a2))) (ix a1)) fun x4_10 => lt (up m_2 (gp 0 (8 + (ix a2))) (ix a1) a3) fun m_13 => some (x4_10, m_13)) else some ((-1), m_2)))))
set_option maxHeartbeats 4000000 in
set_option maxRecDepth 100000 in
theorem tX11_machine {l : Launch} {D : va_G} {cA : Nat → ClassId} {A : Nat → Nat} (hI : InjA cN A) {a1 : Int32} {a2 : Int32} {a3 : Int32} {m m' : Mm} {r : Int32} (h : fX11_machine a1 a2 a3 m = some (r, m')) : Met0 l yX11_machine cX11_machine 5 (some .int) { frames := 1, cells := 0, slots := 0, locals := 21 } cLay cN D cA A [.ref (A 0), .int a1, .int a2, .int a3] m (some (.int r)) m' := by
  refine met0_of (by decide) (Nat.le_of_ble_eq_true rfl) hI ?_
  intro p e s m0 below meth c ls X hinit hP hS hl
  generalize ([.ref (A 0), .int a1, .int a2, .int a3] : List Value).toArray = args at X ⊢
  have hl : lv_has ls 5 [(0, .ref (A 0)), (1, .int a1), (2, .int a2), (3, .int a3)] := hl
  have X : CX cLay cN D cA A p s m0 args meth c "BenchTowels" cX11_machine 5 (some .int) := X
  have hx := X.1
  have hb := X.2.1
  have hml := X.2.2.1
  have hown := X.2.2.2.1
  have hts := X.2.2.2.2.1
  have hF := X.2.2.2.2.2.2.2.2.1
  rewrite [fX11_machine] at h
  refine lv_iload_n hx hb dX11_machine_0 rfl (lv_at hl 1 rfl) ?_
  refine lv_iload_n hx hb dX11_machine_1 rfl (lv_at hl 2 rfl) ?_
  obtain ⟨r_1, m_2, hc_3, h⟩ := bd_some h
  refine c_S (rest := []) X hP hS (tX11_isMachine hI  hc_3) wt_3_44 wt_3_45 wt_1_1 wt_3_46 hy_X11_isMachine ⟨rfl, rfl⟩ ⟨Nat.le_of_ble_eq_true rfl, Nat.le_of_ble_eq_true rfl⟩ rfl hl.1 rfl (Nat.le_of_ble_eq_true rfl) dX11_machine_2 rfl (fun H locs hP hS => ?_)
  refine lv_if_eq (tgt := 21) hx hb dX11_machine_5 (by decide) (fun c_4 => ?_) (fun c_4 => ?_)
  · have h := ifp c_4 h
    refine lv_iconst (v := (-1)) hx hb dX11_machine_21 (by decide) ?_
    exact r_iret X hP hS dX11_machine_22 h
  · have h := ifn c_4 h
    refine lv_iload_n hx hb dX11_machine_8 rfl (lv_at hl 3 rfl) ?_
    refine lv_if_lt (tgt := 21) hx hb dX11_machine_9 (by decide) (fun c_5 => ?_) (fun c_5 => ?_)
    · have h := ifp c_5 h
      refine lv_iconst (v := (-1)) hx hb dX11_machine_21 (by decide) ?_
      exact r_iret X hP hS dX11_machine_22 h
    · have h := ifn c_5 h
      refine lv_iload_n hx hb dX11_machine_12 rfl (lv_at hl 3 rfl) ?_
      refine va_gets hx hb hF.2.2.1.1 hS hown (hts _ wt_3_47) (fun _ q => q) dX11_machine_13 ?_
      refine lv_iload_n hx hb dX11_machine_16 rfl (lv_at hl 2 rfl) ?_
      obtain ⟨hin_6, h⟩ := gx_some h
      refine va_ti hx hb hF.2.2.1.2 hS hin_6 rfl dX11_machine_17 ?_
      refine lv_icmp_le (tgt := 23) hx hb dX11_machine_18 (by decide) (fun c_7 => ?_) (fun c_7 => ?_)
      · have h := ifp c_7 h
        refine lv_aload_n hx hb dX11_machine_23 rfl (lv_at hl 0 rfl) ?_
        refine r_get kc_11 7 X hP (by decide) (L_bt _) (by decide) rfl wt_2_102 dX11_machine_24 ?_
        refine r_get kc_1 4 X hP (lt_g (by decide) (by decide)) (L_gym (by decide) _) (by decide) rfl wt_1_179 dX11_machine_27 ?_
        refine lv_iload_n hx hb dX11_machine_30 rfl (lv_at hl 2 rfl) ?_
        have q_8 := vp_lt hin_6
        refine r_row (q' := (gp 0 (8 + (ix a2)))) X hP (lt_g (by decide) (by decide)) ((Lq_g_7 (by decide)) _) hin_6 rfl q_8 rfl dX11_machine_31 ?_
        refine lv_iload_n hx hb dX11_machine_32 rfl (lv_at hl 1 rfl) ?_
        obtain ⟨hin_9, h⟩ := gx_some h
        refine r_iald X hP (lt_g8 (j := (ix a2)) (by decide) q_8) ((La_g_mrow (j := (ix a2)) (by decide) q_8) _) hin_9 rfl dX11_machine_33 ?_
        obtain ⟨x4_10, ex_11, h⟩ := lt_some h
        refine lv_ren ex_11 ?_
        refine lv_istore (lv' := [(4, .int x4_10), (0, .ref (A 0)), (1, .int a1), (2, .int a2), (3, .int a3)]) hx hb dX11_machine_34 hl (by decide) rfl (fun ls hl => ?_)
        refine lv_aload_n hx hb dX11_machine_36 rfl (lv_at hl 1 rfl) ?_
        refine r_get kc_11 7 X hP (by decide) (L_bt _) (by decide) rfl wt_2_102 dX11_machine_37 ?_
        refine r_get kc_1 4 X hP (lt_g (by decide) (by decide)) (L_gym (by decide) _) (by decide) rfl wt_1_179 dX11_machine_40 ?_
        refine lv_iload_n hx hb dX11_machine_43 rfl (lv_at hl 3 rfl) ?_
        have q_12 := vp_lt hin_6
        refine r_row (q' := (gp 0 (8 + (ix a2)))) X hP (lt_g (by decide) (by decide)) ((Lq_g_7 (by decide)) _) hin_6 rfl q_12 rfl dX11_machine_44 ?_
        refine lv_iload_n hx hb dX11_machine_45 rfl (lv_at hl 2 rfl) ?_
        refine lv_iload_n hx hb dX11_machine_46 rfl (lv_at hl 4 rfl) ?_
        obtain ⟨m_13, em_14, h⟩ := lt_some h
        refine r_iast X hP hS (lt_g8 (j := (ix a2)) (by decide) q_12) (La_g_mrow (j := (ix a2)) (by decide) q_12) hin_9 rfl dX11_machine_47 em_14 (fun H locs hP hS => ?_)
        refine lv_iload hx hb dX11_machine_48 (lv_at hl 0 rfl) ?_
        exact r_iret X hP hS dX11_machine_50 h
      · have h := ifn c_7 h
        refine lv_iconst (v := (-1)) hx hb dX11_machine_21 (by decide) ?_
        exact r_iret X hP hS dX11_machine_22 h

def fX11_machineOf (a1 : Int32) (a2 : Int32) (m : Mm) : Option (Int32 × Mm) := bd (fX11_isMachine a1 a2 m) fun r_1 m_2 => (if r_1 = 0 then some ((-1), m_2) else gx a2 2 (gx a1 6 (some ((m_2 (gp 0 (8 + (ix a2))) (ix a1)), m_2))))
set_option maxHeartbeats 4000000 in
set_option maxRecDepth 100000 in
theorem tX11_machineOf {l : Launch} {D : va_G} {cA : Nat → ClassId} {A : Nat → Nat} (hI : InjA cN A) {a1 : Int32} {a2 : Int32} {m m' : Mm} {r : Int32} (h : fX11_machineOf a1 a2 m = some (r, m')) : Met0 l yX11_machineOf cX11_machineOf 3 (some .int) { frames := 1, cells := 0, slots := 0, locals := 21 } cLay cN D cA A [.ref (A 0), .int a1, .int a2] m (some (.int r)) m' := by
  refine met0_of (by decide) (Nat.le_of_ble_eq_true rfl) hI ?_
  intro p e s m0 below meth c ls X hinit hP hS hl
  generalize ([.ref (A 0), .int a1, .int a2] : List Value).toArray = args at X ⊢
  have hl : lv_has ls 3 [(0, .ref (A 0)), (1, .int a1), (2, .int a2)] := hl
  have X : CX cLay cN D cA A p s m0 args meth c "BenchTowels" cX11_machineOf 3 (some .int) := X
  have hx := X.1
  have hb := X.2.1
  have hml := X.2.2.1
  have hown := X.2.2.2.1
  have hts := X.2.2.2.2.1
  have hF := X.2.2.2.2.2.2.2.2.1
  rewrite [fX11_machineOf] at h
  refine lv_iload_n hx hb dX11_machineOf_0 rfl (lv_at hl 1 rfl) ?_
  refine lv_iload_n hx hb dX11_machineOf_1 rfl (lv_at hl 2 rfl) ?_
  obtain ⟨r_1, m_2, hc_3, h⟩ := bd_some h
  refine c_S (rest := []) X hP hS (tX11_isMachine hI  hc_3) wt_3_44 wt_3_45 wt_1_1 wt_3_46 hy_X11_isMachine ⟨rfl, rfl⟩ ⟨Nat.le_of_ble_eq_true rfl, Nat.le_of_ble_eq_true rfl⟩ rfl hl.1 rfl (Nat.le_of_ble_eq_true rfl) dX11_machineOf_2 rfl (fun H locs hP hS => ?_)
  refine lv_if_eq (tgt := 22) hx hb dX11_machineOf_5 (by decide) (fun c_4 => ?_) (fun c_4 => ?_)
  · have h := ifp c_4 h
    refine lv_iconst (v := (-1)) hx hb dX11_machineOf_22 (by decide) ?_
    exact r_iret X hP hS dX11_machineOf_23 h
  · have h := ifn c_4 h
    refine lv_aload_n hx hb dX11_machineOf_8 rfl (lv_at hl 0 rfl) ?_
    refine r_get kc_11 7 X hP (by decide) (L_bt _) (by decide) rfl wt_2_102 dX11_machineOf_9 ?_
    refine r_get kc_1 4 X hP (lt_g (by decide) (by decide)) (L_gym (by decide) _) (by decide) rfl wt_1_179 dX11_machineOf_12 ?_
    refine lv_iload_n hx hb dX11_machineOf_15 rfl (lv_at hl 2 rfl) ?_
    obtain ⟨hin_5, h⟩ := gx_some h
    have q_6 := vp_lt hin_5
    refine r_row (q' := (gp 0 (8 + (ix a2)))) X hP (lt_g (by decide) (by decide)) ((Lq_g_7 (by decide)) _) hin_5 rfl q_6 rfl dX11_machineOf_16 ?_
    refine lv_iload_n hx hb dX11_machineOf_17 rfl (lv_at hl 1 rfl) ?_
    obtain ⟨hin_7, h⟩ := gx_some h
    refine r_iald X hP (lt_g8 (j := (ix a2)) (by decide) q_6) ((La_g_mrow (j := (ix a2)) (by decide) q_6) _) hin_7 rfl dX11_machineOf_18 ?_
    refine lv_goto (tgt := 23) hx hb dX11_machineOf_19 (by decide) ?_
    exact r_iret X hP hS dX11_machineOf_23 h

def fX11_tire (a1 : Int32) (a2 : Int32) (m : Mm) : Option (Int32 × Mm) := (if a1 < 0 then some ((-1), m) else (if (3 : Int32) ≤ a1 then some ((-1), m) else (if a2 < 0 then some ((-1), m) else (if a2 ≤ 9 then gx a1 3 (lt (m (gp 0 10) (ix a1)) fun x3_6 => lt (up m (gp 0 10) (ix a1) a2) fun m_8 => some (x3_6, m_8)) else some ((-1), m)))))
set_option maxHeartbeats 4000000 in
set_option maxRecDepth 100000 in
theorem tX11_tire {l : Launch} {D : va_G} {cA : Nat → ClassId} {A : Nat → Nat} (hI : InjA cN A) {a1 : Int32} {a2 : Int32} {m m' : Mm} {r : Int32} (h : fX11_tire a1 a2 m = some (r, m')) : Met0 l yX11_tire cX11_tire 4 (some .int) { frames := 0, cells := 0, slots := 0, locals := 0 } cLay cN D cA A [.ref (A 0), .int a1, .int a2] m (some (.int r)) m' := by
  refine met0_of (by decide) (Nat.le_of_ble_eq_true rfl) hI ?_
  intro p e s m0 below meth c ls X hinit hP hS hl
  generalize ([.ref (A 0), .int a1, .int a2] : List Value).toArray = args at X ⊢
  have hl : lv_has ls 4 [(0, .ref (A 0)), (1, .int a1), (2, .int a2)] := hl
  have X : CX cLay cN D cA A p s m0 args meth c "BenchTowels" cX11_tire 4 (some .int) := X
  have hx := X.1
  have hb := X.2.1
  have hml := X.2.2.1
  have hown := X.2.2.2.1
  have hts := X.2.2.2.2.1
  have hF := X.2.2.2.2.2.2.2.2.1
  rewrite [fX11_tire] at h
  refine lv_iload_n hx hb dX11_tire_0 rfl (lv_at hl 1 rfl) ?_
  refine lv_if_lt (tgt := 19) hx hb dX11_tire_1 (by decide) (fun c_1 => ?_) (fun c_1 => ?_)
  · have h := ifp c_1 h
    refine lv_iconst (v := (-1)) hx hb dX11_tire_19 (by decide) ?_
    exact r_iret X hP hS dX11_tire_20 h
  · have h := ifn c_1 h
    refine lv_iload_n hx hb dX11_tire_4 rfl (lv_at hl 1 rfl) ?_
    refine lv_iconst (v := 3) hx hb dX11_tire_5 (by decide) ?_
    refine lv_icmp_ge (tgt := 19) hx hb dX11_tire_6 (by decide) (fun c_2 => ?_) (fun c_2 => ?_)
    · have h := ifp c_2 h
      refine lv_iconst (v := (-1)) hx hb dX11_tire_19 (by decide) ?_
      exact r_iret X hP hS dX11_tire_20 h
    · have h := ifn c_2 h
      refine lv_iload_n hx hb dX11_tire_9 rfl (lv_at hl 2 rfl) ?_
      refine lv_if_lt (tgt := 19) hx hb dX11_tire_10 (by decide) (fun c_3 => ?_) (fun c_3 => ?_)
      · have h := ifp c_3 h
        refine lv_iconst (v := (-1)) hx hb dX11_tire_19 (by decide) ?_
        exact r_iret X hP hS dX11_tire_20 h
      · have h := ifn c_3 h
        refine lv_iload_n hx hb dX11_tire_13 rfl (lv_at hl 2 rfl) ?_
        refine lv_bipush (v := 9) hx hb dX11_tire_14 (by decide) ?_
        refine lv_icmp_le (tgt := 21) hx hb dX11_tire_16 (by decide) (fun c_4 => ?_) (fun c_4 => ?_)
        · have h := ifp c_4 h
          refine lv_aload_n hx hb dX11_tire_21 rfl (lv_at hl 0 rfl) ?_
          refine r_get kc_11 7 X hP (by decide) (L_bt _) (by decide) rfl wt_2_102 dX11_tire_22 ?_
          refine r_get kc_1 5 X hP (lt_g (by decide) (by decide)) (L_gym (by decide) _) (by decide) rfl wt_1_181 dX11_tire_25 ?_
          refine lv_iload_n hx hb dX11_tire_28 rfl (lv_at hl 1 rfl) ?_
          obtain ⟨hin_5, h⟩ := gx_some h
          refine r_iald X hP (lt_g (by decide) (by decide)) ((La_g_10 (by decide)) _) hin_5 rfl dX11_tire_29 ?_
          obtain ⟨x3_6, ex_7, h⟩ := lt_some h
          refine lv_ren ex_7 ?_
          refine lv_istore_n (lv' := [(3, .int x3_6), (0, .ref (A 0)), (1, .int a1), (2, .int a2)]) hx hb dX11_tire_30 rfl hl (by decide) rfl (fun ls hl => ?_)
          refine lv_aload_n hx hb dX11_tire_31 rfl (lv_at hl 1 rfl) ?_
          refine r_get kc_11 7 X hP (by decide) (L_bt _) (by decide) rfl wt_2_102 dX11_tire_32 ?_
          refine r_get kc_1 5 X hP (lt_g (by decide) (by decide)) (L_gym (by decide) _) (by decide) rfl wt_1_181 dX11_tire_35 ?_
          refine lv_iload_n hx hb dX11_tire_38 rfl (lv_at hl 2 rfl) ?_
          refine lv_iload_n hx hb dX11_tire_39 rfl (lv_at hl 3 rfl) ?_
          obtain ⟨m_8, em_9, h⟩ := lt_some h
          refine r_iast X hP hS (lt_g (by decide) (by decide)) (La_g_10 (by decide)) hin_5 rfl dX11_tire_40 em_9 (fun H locs hP hS => ?_)
          refine lv_iload_n hx hb dX11_tire_41 rfl (lv_at hl 0 rfl) ?_
          exact r_iret X hP hS dX11_tire_42 h
        · have h := ifn c_4 h
          refine lv_iconst (v := (-1)) hx hb dX11_tire_19 (by decide) ?_
          exact r_iret X hP hS dX11_tire_20 h

def fX11_ends (a1 : Int32) (m : Mm) : Option (Int32 × Mm) := (if a1 < 1 then some ((-1), m) else (if a1 ≤ 16 then (if ((m (gp 0 0) 6) : Int32) ≤ a1 then lt (m (gp 0 0) 7) fun x2_4 => lt (up m (gp 0 0) 7 a1) fun m_6 => some (x2_4, m_6) else some ((-4), m)) else some ((-1), m)))
set_option maxHeartbeats 4000000 in
set_option maxRecDepth 100000 in
theorem tX11_ends {l : Launch} {D : va_G} {cA : Nat → ClassId} {A : Nat → Nat} (hI : InjA cN A) {a1 : Int32} {m m' : Mm} {r : Int32} (h : fX11_ends a1 m = some (r, m')) : Met0 l yX11_ends cX11_ends 3 (some .int) { frames := 0, cells := 0, slots := 0, locals := 0 } cLay cN D cA A [.ref (A 0), .int a1] m (some (.int r)) m' := by
  refine met0_of (by decide) (Nat.le_of_ble_eq_true rfl) hI ?_
  intro p e s m0 below meth c ls X hinit hP hS hl
  generalize ([.ref (A 0), .int a1] : List Value).toArray = args at X ⊢
  have hl : lv_has ls 3 [(0, .ref (A 0)), (1, .int a1)] := hl
  have X : CX cLay cN D cA A p s m0 args meth c "BenchTowels" cX11_ends 3 (some .int) := X
  have hx := X.1
  have hb := X.2.1
  have hml := X.2.2.1
  have hown := X.2.2.2.1
  have hts := X.2.2.2.2.1
  have hF := X.2.2.2.2.2.2.2.2.1
  rewrite [fX11_ends] at h
  refine lv_iload_n hx hb dX11_ends_0 rfl (lv_at hl 1 rfl) ?_
  refine lv_iconst (v := 1) hx hb dX11_ends_1 (by decide) ?_
  refine lv_icmp_lt (tgt := 11) hx hb dX11_ends_2 (by decide) (fun c_1 => ?_) (fun c_1 => ?_)
  · have h := ifp c_1 h
    refine lv_iconst (v := (-1)) hx hb dX11_ends_11 (by decide) ?_
    exact r_iret X hP hS dX11_ends_12 h
  · have h := ifn c_1 h
    refine lv_iload_n hx hb dX11_ends_5 rfl (lv_at hl 1 rfl) ?_
    refine lv_bipush (v := 16) hx hb dX11_ends_6 (by decide) ?_
    refine lv_icmp_le (tgt := 13) hx hb dX11_ends_8 (by decide) (fun c_2 => ?_) (fun c_2 => ?_)
    · have h := ifp c_2 h
      refine lv_iload_n hx hb dX11_ends_13 rfl (lv_at hl 1 rfl) ?_
      refine lv_aload_n hx hb dX11_ends_14 rfl (lv_at hl 0 rfl) ?_
      refine r_get kc_11 7 X hP (by decide) (L_bt _) (by decide) rfl wt_2_102 dX11_ends_15 ?_
      refine r_get kc_1 6 X hP (lt_g (by decide) (by decide)) (L_gym (by decide) _) (by decide) rfl wt_1_183 dX11_ends_18 ?_
      refine lv_icmp_ge (tgt := 27) hx hb dX11_ends_21 (by decide) (fun c_3 => ?_) (fun c_3 => ?_)
      · have h := ifp c_3 h
        refine lv_aload_n hx hb dX11_ends_27 rfl (lv_at hl 0 rfl) ?_
        refine r_get kc_11 7 X hP (by decide) (L_bt _) (by decide) rfl wt_2_102 dX11_ends_28 ?_
        refine r_get kc_1 7 X hP (lt_g (by decide) (by decide)) (L_gym (by decide) _) (by decide) rfl wt_1_187 dX11_ends_31 ?_
        obtain ⟨x2_4, ex_5, h⟩ := lt_some h
        refine lv_ren ex_5 ?_
        refine lv_istore_n (lv' := [(2, .int x2_4), (0, .ref (A 0)), (1, .int a1)]) hx hb dX11_ends_34 rfl hl (by decide) rfl (fun ls hl => ?_)
        refine lv_aload_n hx hb dX11_ends_35 rfl (lv_at hl 1 rfl) ?_
        refine r_get kc_11 7 X hP (by decide) (L_bt _) (by decide) rfl wt_2_102 dX11_ends_36 ?_
        refine lv_iload_n hx hb dX11_ends_39 rfl (lv_at hl 2 rfl) ?_
        obtain ⟨m_6, em_7, h⟩ := lt_some h
        refine r_put kc_1 7 X hP hS (lt_g (by decide) (by decide)) (L_gym (by decide) _) (L_gym (by decide) _) (by decide) wt_1_187 rfl (by decide +kernel) (Nat.le_of_ble_eq_true rfl) dX11_ends_40 em_7 (fun H locs hP hS => ?_)
        refine lv_iload_n hx hb dX11_ends_43 rfl (lv_at hl 0 rfl) ?_
        exact r_iret X hP hS dX11_ends_44 h
      · have h := ifn c_3 h
        refine lv_bipush (v := (-4)) hx hb dX11_ends_24 (by decide) ?_
        exact r_iret X hP hS dX11_ends_26 h
    · have h := ifn c_2 h
      refine lv_iconst (v := (-1)) hx hb dX11_ends_11 (by decide) ?_
      exact r_iret X hP hS dX11_ends_12 h

def fX11_anew  (m : Mm) : Option (Int32 × Mm) := lt (m (gp 0 0) 6) fun x1_1 => bd (fX1_beginAnew 0 m) fun r_3 m_4 => some (x1_1, m_4)
set_option maxHeartbeats 4000000 in
set_option maxRecDepth 100000 in
theorem tX11_anew {l : Launch} {D : va_G} {cA : Nat → ClassId} {A : Nat → Nat} (hI : InjA cN A) {m m' : Mm} {r : Int32} (h : fX11_anew m = some (r, m')) : Met0 l yX11_anew cX11_anew 2 (some .int) { frames := 1, cells := 0, slots := 0, locals := 21 } cLay cN D cA A [.ref (A 0)] m (some (.int r)) m' := by
  refine met0_of (by decide) (Nat.le_of_ble_eq_true rfl) hI ?_
  intro p e s m0 below meth c ls X hinit hP hS hl
  generalize ([.ref (A 0)] : List Value).toArray = args at X ⊢
  have hl : lv_has ls 2 [(0, .ref (A 0))] := hl
  have X : CX cLay cN D cA A p s m0 args meth c "BenchTowels" cX11_anew 2 (some .int) := X
  have hx := X.1
  have hb := X.2.1
  have hml := X.2.2.1
  have hown := X.2.2.2.1
  have hts := X.2.2.2.2.1
  have hF := X.2.2.2.2.2.2.2.2.1
  rewrite [fX11_anew] at h
  refine lv_aload_n hx hb dX11_anew_0 rfl (lv_at hl 0 rfl) ?_
  refine r_get kc_11 7 X hP (by decide) (L_bt _) (by decide) rfl wt_2_102 dX11_anew_1 ?_
  refine r_get kc_1 6 X hP (lt_g (by decide) (by decide)) (L_gym (by decide) _) (by decide) rfl wt_1_183 dX11_anew_4 ?_
  obtain ⟨x1_1, ex_2, h⟩ := lt_some h
  refine lv_ren ex_2 ?_
  refine lv_istore_n (lv' := [(1, .int x1_1), (0, .ref (A 0))]) hx hb dX11_anew_7 rfl hl (by decide) rfl (fun ls hl => ?_)
  refine lv_aload_n hx hb dX11_anew_8 rfl (lv_at hl 1 rfl) ?_
  refine r_get kc_11 7 X hP (by decide) (L_bt _) (by decide) rfl wt_2_102 dX11_anew_9 ?_
  obtain ⟨r_3, m_4, hc_5, h⟩ := bd_some h
  refine c_V (rest := []) X hP hS (tX1_beginAnew hI (by decide) hc_5) (lt_g (by decide) (by decide)) (L_gym (by decide) _) rfl wt_3_65 wt_3_66 wt_3_67 wt_1_10 wt_3_68 ⟨rfl, hy_X1_beginAnew⟩ ⟨rfl, rfl⟩ ⟨Nat.le_of_ble_eq_true rfl, Nat.le_of_ble_eq_true rfl⟩ rfl hl.1 rfl (Nat.le_of_ble_eq_true rfl) dX11_anew_12 rfl (fun H locs hP hS => ?_)
  refine lv_iload_n hx hb dX11_anew_15 rfl (lv_at hl 0 rfl) ?_
  exact r_iret X hP hS dX11_anew_16 h

def fX11_state (a1 : Int32) (m : Mm) : Option (Int32 × Mm) := (if a1 = 0 then some ((m (gp 0 0) 6), m) else (if a1 = 1 then some ((m (gp 0 0) 7), m) else (if a1 = 2 then some ((m (gp 0 0) 8), m) else (if a1 = 3 then bd (fX1_isOver 0 m) fun r_5 m_6 => (if r_5 = 0 then some (0, m_6) else some (1, m_6)) else (if a1 = 4 then bd (fX1_spent 0 m) fun r_10 m_11 => some (r_10, m_11) else (if a1 < 5 then some ((-1), m) else (if (8 : Int32) ≤ a1 then some ((-1), m) else gx (a1 - 5) 3 (some ((m (gp 0 10) (ix (a1 - 5))), m)))))))))
set_option maxHeartbeats 4000000 in
set_option maxRecDepth 100000 in
theorem tX11_state {l : Launch} {D : va_G} {cA : Nat → ClassId} {A : Nat → Nat} (hI : InjA cN A) {a1 : Int32} {m m' : Mm} {r : Int32} (h : fX11_state a1 m = some (r, m')) : Met0 l yX11_state cX11_state 2 (some .int) { frames := 1, cells := 0, slots := 0, locals := 22 } cLay cN D cA A [.ref (A 0), .int a1] m (some (.int r)) m' := by
  refine met0_of (by decide) (Nat.le_of_ble_eq_true rfl) hI ?_
  intro p e s m0 below meth c ls X hinit hP hS hl
  generalize ([.ref (A 0), .int a1] : List Value).toArray = args at X ⊢
  have hl : lv_has ls 2 [(0, .ref (A 0)), (1, .int a1)] := hl
  have X : CX cLay cN D cA A p s m0 args meth c "BenchTowels" cX11_state 2 (some .int) := X
  have hx := X.1
  have hb := X.2.1
  have hml := X.2.2.1
  have hown := X.2.2.2.1
  have hts := X.2.2.2.2.1
  have hF := X.2.2.2.2.2.2.2.2.1
  rewrite [fX11_state] at h
  refine lv_iload_n hx hb dX11_state_0 rfl (lv_at hl 1 rfl) ?_
  by_cases c_1 : a1 = 0
  · have h := ifp c_1 h
    refine lv_ren c_1.symm ?_
    refine lv_tableIn (tgt := 36) hx hb dX11_state_1 (by decide) (by decide) rfl (by decide) ?_
    refine lv_aload_n hx hb dX11_state_36 rfl (lv_at hl 0 rfl) ?_
    refine r_get kc_11 7 X hP (by decide) (L_bt _) (by decide) rfl wt_2_102 dX11_state_37 ?_
    refine r_get kc_1 6 X hP (lt_g (by decide) (by decide)) (L_gym (by decide) _) (by decide) rfl wt_1_183 dX11_state_40 ?_
    exact r_iret X hP hS dX11_state_43 h
  have h := ifn c_1 h
  by_cases c_2 : a1 = 1
  · have h := ifp c_2 h
    refine lv_ren c_2.symm ?_
    refine lv_tableIn (tgt := 44) hx hb dX11_state_1 (by decide) (by decide) rfl (by decide) ?_
    refine lv_aload_n hx hb dX11_state_44 rfl (lv_at hl 0 rfl) ?_
    refine r_get kc_11 7 X hP (by decide) (L_bt _) (by decide) rfl wt_2_102 dX11_state_45 ?_
    refine r_get kc_1 7 X hP (lt_g (by decide) (by decide)) (L_gym (by decide) _) (by decide) rfl wt_1_187 dX11_state_48 ?_
    exact r_iret X hP hS dX11_state_51 h
  have h := ifn c_2 h
  by_cases c_3 : a1 = 2
  · have h := ifp c_3 h
    refine lv_ren c_3.symm ?_
    refine lv_tableIn (tgt := 52) hx hb dX11_state_1 (by decide) (by decide) rfl (by decide) ?_
    refine lv_aload_n hx hb dX11_state_52 rfl (lv_at hl 0 rfl) ?_
    refine r_get kc_11 7 X hP (by decide) (L_bt _) (by decide) rfl wt_2_102 dX11_state_53 ?_
    refine r_get kc_1 8 X hP (lt_g (by decide) (by decide)) (L_gym (by decide) _) (by decide) rfl wt_1_189 dX11_state_56 ?_
    exact r_iret X hP hS dX11_state_59 h
  have h := ifn c_3 h
  by_cases c_4 : a1 = 3
  · have h := ifp c_4 h
    refine lv_ren c_4.symm ?_
    refine lv_tableIn (tgt := 60) hx hb dX11_state_1 (by decide) (by decide) rfl (by decide) ?_
    refine lv_aload_n hx hb dX11_state_60 rfl (lv_at hl 0 rfl) ?_
    refine r_get kc_11 7 X hP (by decide) (L_bt _) (by decide) rfl wt_2_102 dX11_state_61 ?_
    obtain ⟨r_5, m_6, hc_7, h⟩ := bd_some h
    refine c_V (rest := []) X hP hS (tX1_isOver hI (by decide) hc_7) (lt_g (by decide) (by decide)) (L_gym (by decide) _) rfl wt_3_73 wt_3_74 wt_3_75 wt_1_10 wt_3_76 ⟨rfl, hy_X1_isOver⟩ ⟨rfl, rfl⟩ ⟨Nat.le_of_ble_eq_true rfl, Nat.le_of_ble_eq_true rfl⟩ rfl hl.1 rfl (Nat.le_of_ble_eq_true rfl) dX11_state_64 rfl (fun H locs hP hS => ?_)
    refine lv_if_eq (tgt := 74) hx hb dX11_state_67 (by decide) (fun c_8 => ?_) (fun c_8 => ?_)
    · have h := ifp c_8 h
      refine lv_iconst (v := 0) hx hb dX11_state_74 (by decide) ?_
      exact r_iret X hP hS dX11_state_75 h
    · have h := ifn c_8 h
      refine lv_iconst (v := 1) hx hb dX11_state_70 (by decide) ?_
      refine lv_goto (tgt := 75) hx hb dX11_state_71 (by decide) ?_
      exact r_iret X hP hS dX11_state_75 h
  have h := ifn c_4 h
  by_cases c_9 : a1 = 4
  · have h := ifp c_9 h
    refine lv_ren c_9.symm ?_
    refine lv_tableIn (tgt := 76) hx hb dX11_state_1 (by decide) (by decide) rfl (by decide) ?_
    refine lv_aload_n hx hb dX11_state_76 rfl (lv_at hl 0 rfl) ?_
    refine r_get kc_11 7 X hP (by decide) (L_bt _) (by decide) rfl wt_2_102 dX11_state_77 ?_
    obtain ⟨r_10, m_11, hc_12, h⟩ := bd_some h
    refine c_V (rest := []) X hP hS (tX1_spent hI (by decide) hc_12) (lt_g (by decide) (by decide)) (L_gym (by decide) _) rfl wt_3_77 wt_3_78 wt_3_79 wt_1_10 wt_3_80 ⟨rfl, hy_X1_spent⟩ ⟨rfl, rfl⟩ ⟨Nat.le_of_ble_eq_true rfl, Nat.le_of_ble_eq_true rfl⟩ rfl hl.1 rfl (Nat.le_of_ble_eq_true rfl) dX11_state_80 rfl (fun H locs hP hS => ?_)
    exact r_iret X hP hS dX11_state_83 h
  have h := ifn c_9 h
  refine lv_tableOut (tgt := 84) hx hb dX11_state_1 (by have q1000 : a1.toInt ≠ 0 := fun q => c_1 (Int32.toInt_inj.mp (q.trans (by decide)));  have q1001 : a1.toInt ≠ 1 := fun q => c_2 (Int32.toInt_inj.mp (q.trans (by decide)));  have q1002 : a1.toInt ≠ 2 := fun q => c_3 (Int32.toInt_inj.mp (q.trans (by decide)));  have q1003 : a1.toInt ≠ 3 := fun q => c_4 (Int32.toInt_inj.mp (q.trans (by decide)));  have q1004 : a1.toInt ≠ 4 := fun q => c_9 (Int32.toInt_inj.mp (q.trans (by decide)));  omega) (by decide) ?_
  refine lv_iload_n hx hb dX11_state_84 rfl (lv_at hl 1 rfl) ?_
  refine lv_iconst (v := 5) hx hb dX11_state_85 (by decide) ?_
  refine lv_icmp_lt (tgt := 109) hx hb dX11_state_86 (by decide) (fun c_13 => ?_) (fun c_13 => ?_)
  · have h := ifp c_13 h
    refine lv_iconst (v := (-1)) hx hb dX11_state_109 (by decide) ?_
    exact r_iret X hP hS dX11_state_110 h
  · have h := ifn c_13 h
    refine lv_iload_n hx hb dX11_state_89 rfl (lv_at hl 1 rfl) ?_
    refine lv_bipush (v := 8) hx hb dX11_state_90 (by decide) ?_
    refine lv_icmp_ge (tgt := 109) hx hb dX11_state_92 (by decide) (fun c_14 => ?_) (fun c_14 => ?_)
    · have h := ifp c_14 h
      refine lv_iconst (v := (-1)) hx hb dX11_state_109 (by decide) ?_
      exact r_iret X hP hS dX11_state_110 h
    · have h := ifn c_14 h
      refine lv_aload_n hx hb dX11_state_95 rfl (lv_at hl 0 rfl) ?_
      refine r_get kc_11 7 X hP (by decide) (L_bt _) (by decide) rfl wt_2_102 dX11_state_96 ?_
      refine r_get kc_1 5 X hP (lt_g (by decide) (by decide)) (L_gym (by decide) _) (by decide) rfl wt_1_181 dX11_state_99 ?_
      refine lv_iload_n hx hb dX11_state_102 rfl (lv_at hl 1 rfl) ?_
      refine lv_iconst (v := 5) hx hb dX11_state_103 (by decide) ?_
      refine lv_isub hx hb dX11_state_104 ?_
      obtain ⟨hin_15, h⟩ := gx_some h
      refine r_iald X hP (lt_g (by decide) (by decide)) ((La_g_10 (by decide)) _) hin_15 rfl dX11_state_105 ?_
      refine lv_goto (tgt := 110) hx hb dX11_state_106 (by decide) ?_
      exact r_iret X hP hS dX11_state_110 h

def fX11_feed_31  : Nat → Int64 → Int32 → Int32 → Mm → Option (Int32 × Mm)
  | 0, _, _, _, _ => none
  | n + 1, x1, x3, x4, m => (if (x3 : Int32) ≤ x4 then lt (up m 0 1 ((m 0 1) + x3)) fun m_5 => some ((m_5 0 1), m_5) else gx ((m 0 1) + x4) 200 (lt (up m 1 (ix ((m 0 1) + x4)) (vp_nar .byte (Int8.toInt32 (Int32.toInt8 (Int64.toInt32 ((Int64.toUInt64 x1) >>> ((Int32.toInt64 ((8 : Int32) * x4)).toUInt64 &&& Int64.toUInt64 63)).toInt64))))) fun m_8 => lt ((x4 : Int32) + 1) fun x4_10 => (fX11_feed_31 n x1 x3 x4_10 m_8)))
set_option maxHeartbeats 4000000 in
set_option maxRecDepth 100000 in
theorem tX11_feed_31 (hI : InjA cN A)  {r : Int32} {m' : Mm} (X : CX cLay cN D cA A p s m0 args meth c "BenchTowels" cX11_feed 5 (some .int)) : ∀ (n : Nat) (x1 : Int64) (x3 : Int32) (x4 : Int32) (m : Mm) (H : Heap) (locs : List Loc) (ls : Array Slot), fX11_feed_31 n x1 x3 x4 m = some (r, m') → va_P D vwCl (wsOf cLay cN cA A m) H → va_S (AW cN A) s.heap H locs → lv_has ls 5 [(0, .ref (A 0)), (1, .long x1), (3, .int x3), (4, .int x4)] → W p l e { frames := 0, cells := 0, slots := 0, locals := 0 } s m0 args below meth c H locs 0 0 (ZR below args s cLay cN D cA A (some (.int r)) m') (F0 m0 31 ls []) := by
  have hx := X.1
  have hb := X.2.1
  have hml := X.2.2.1
  have hown := X.2.2.2.1
  have hts := X.2.2.2.2.1
  have hF := X.2.2.2.2.2.2.2.2.1
  intro n
  induction n with
  | zero =>
    intro x1 x3 x4 m H locs ls h hP hS hl
    exact absurd h (by rewrite [fX11_feed_31]; exact fun q => by cases q)
  | succ n ih =>
    intro x1 x3 x4 m H locs ls h hP hS hl
    rewrite [fX11_feed_31] at h
    refine lv_iload hx hb dX11_feed_31 (lv_at hl 3 rfl) ?_
    refine lv_iload_n hx hb dX11_feed_33 rfl (lv_at hl 2 rfl) ?_
    refine lv_icmp_ge (tgt := 64) hx hb dX11_feed_34 (by decide) (fun c_4 => ?_) (fun c_4 => ?_)
    · have h := ifp c_4 h
      refine lv_aload_n hx hb dX11_feed_64 rfl (lv_at hl 0 rfl) ?_
      refine lv_dup hx hb dX11_feed_65 rfl ?_
      refine r_get kc_11 1 X hP (by decide) (L_bt _) (by decide) rfl wt_2_96 dX11_feed_66 ?_
      refine lv_iload_n hx hb dX11_feed_69 rfl (lv_at hl 2 rfl) ?_
      refine lv_iadd hx hb dX11_feed_70 ?_
      obtain ⟨m_5, em_6, h⟩ := lt_some h
      refine r_put kc_11 1 X hP hS (by decide) (L_bt _) (L_bt _) (by decide) wt_2_96 rfl (by decide +kernel) (Nat.le_of_ble_eq_true rfl) dX11_feed_71 em_6 (fun H locs hP hS => ?_)
      refine lv_aload_n hx hb dX11_feed_74 rfl (lv_at hl 0 rfl) ?_
      refine r_get kc_11 1 X hP (by decide) (L_bt _) (by decide) rfl wt_2_96 dX11_feed_75 ?_
      exact r_iret X hP hS dX11_feed_78 h
    · have h := ifn c_4 h
      refine lv_aload_n hx hb dX11_feed_37 rfl (lv_at hl 0 rfl) ?_
      refine r_get kc_11 0 X hP (by decide) (L_bt _) (by decide) rfl wt_2_95 dX11_feed_38 ?_
      refine lv_aload_n hx hb dX11_feed_41 rfl (lv_at hl 0 rfl) ?_
      refine r_get kc_11 1 X hP (by decide) (L_bt _) (by decide) rfl wt_2_96 dX11_feed_42 ?_
      refine lv_iload hx hb dX11_feed_45 (lv_at hl 3 rfl) ?_
      refine lv_iadd hx hb dX11_feed_47 ?_
      refine lv_lload_n hx hb dX11_feed_48 rfl (lv_at hl 1 rfl) ?_
      refine lv_bipush (v := 8) hx hb dX11_feed_49 (by decide) ?_
      refine lv_iload hx hb dX11_feed_51 (lv_at hl 3 rfl) ?_
      refine lv_imul hx hb dX11_feed_53 ?_
      refine lv_lushr hx hb dX11_feed_54 rfl ?_
      refine lv_l2i hx hb dX11_feed_55 rfl ?_
      refine lv_i2b hx hb dX11_feed_56 rfl ?_
      obtain ⟨hin_7, h⟩ := gx_some h
      obtain ⟨m_8, em_9, h⟩ := lt_some h
      refine r_bast X hP hS (by decide) La_1 hin_7 rfl dX11_feed_57 em_9 (fun H locs hP hS => ?_)
      obtain ⟨x4_10, ex_11, h⟩ := lt_some h
      refine lv_iinc (v := x4_10) (lv' := [(4, .int x4_10), (0, .ref (A 0)), (1, .long x1), (3, .int x3)]) hx hb dX11_feed_58 hl (k := 3) rfl (by rw [ex_11]; rfl) (by decide) rfl (fun ls hl => ?_)
      refine lv_goto (tgt := 31) hx hb dX11_feed_61 (by decide) ?_
      exact ih x1 x3 x4_10 m_8 _ _ _  h hP hS (lv_sub hl [1, 2, 3, 0] rfl)

def fX11_feed (a1 : Int64) (a2 : Int32) (m : Mm) : Option (Int32 × Mm) := (if a2 < 1 then some ((-1), m) else (if a2 ≤ 8 then (if ((m 0 1) + a2) ≤ 200 then (fX11_feed_31  FL a1 a2 0 m) else some ((-2), m)) else some ((-1), m)))
set_option maxHeartbeats 4000000 in
set_option maxRecDepth 100000 in
theorem tX11_feed {l : Launch} {D : va_G} {cA : Nat → ClassId} {A : Nat → Nat} (hI : InjA cN A) {a1 : Int64} {a2 : Int32} {m m' : Mm} {r : Int32} (h : fX11_feed a1 a2 m = some (r, m')) : Met0 l yX11_feed cX11_feed 5 (some .int) { frames := 0, cells := 0, slots := 0, locals := 0 } cLay cN D cA A [.ref (A 0), .long a1, .int a2] m (some (.int r)) m' := by
  refine met0_of (by decide) (Nat.le_of_ble_eq_true rfl) hI ?_
  intro p e s m0 below meth c ls X hinit hP hS hl
  generalize ([.ref (A 0), .long a1, .int a2] : List Value).toArray = args at X ⊢
  have hl : lv_has ls 5 [(0, .ref (A 0)), (1, .long a1), (3, .int a2)] := hl
  have X : CX cLay cN D cA A p s m0 args meth c "BenchTowels" cX11_feed 5 (some .int) := X
  have hx := X.1
  have hb := X.2.1
  have hml := X.2.2.1
  have hown := X.2.2.2.1
  have hts := X.2.2.2.2.1
  have hF := X.2.2.2.2.2.2.2.2.1
  rewrite [fX11_feed] at h
  refine lv_iload_n hx hb dX11_feed_0 rfl (lv_at hl 2 rfl) ?_
  refine lv_iconst (v := 1) hx hb dX11_feed_1 (by decide) ?_
  refine lv_icmp_lt (tgt := 11) hx hb dX11_feed_2 (by decide) (fun c_1 => ?_) (fun c_1 => ?_)
  · have h := ifp c_1 h
    refine lv_iconst (v := (-1)) hx hb dX11_feed_11 (by decide) ?_
    exact r_iret X hP hS dX11_feed_12 h
  · have h := ifn c_1 h
    refine lv_iload_n hx hb dX11_feed_5 rfl (lv_at hl 2 rfl) ?_
    refine lv_bipush (v := 8) hx hb dX11_feed_6 (by decide) ?_
    refine lv_icmp_le (tgt := 13) hx hb dX11_feed_8 (by decide) (fun c_2 => ?_) (fun c_2 => ?_)
    · have h := ifp c_2 h
      refine lv_aload_n hx hb dX11_feed_13 rfl (lv_at hl 0 rfl) ?_
      refine r_get kc_11 1 X hP (by decide) (L_bt _) (by decide) rfl wt_2_96 dX11_feed_14 ?_
      refine lv_iload_n hx hb dX11_feed_17 rfl (lv_at hl 2 rfl) ?_
      refine lv_iadd hx hb dX11_feed_18 ?_
      refine lv_sipush (v := 200) hx hb dX11_feed_19 (by decide) ?_
      refine lv_icmp_le (tgt := 28) hx hb dX11_feed_22 (by decide) (fun c_3 => ?_) (fun c_3 => ?_)
      · have h := ifp c_3 h
        refine lv_iconst (v := 0) hx hb dX11_feed_28 (by decide) ?_
        refine lv_istore (lv' := [(4, .int 0), (0, .ref (A 0)), (1, .long a1), (3, .int a2)]) hx hb dX11_feed_29 hl (by decide) rfl (fun ls hl => ?_)
        exact tX11_feed_31 hI    X FL a1 a2 0 m _ _ _  h hP hS (lv_sub hl [1, 2, 3, 0] rfl)
      · have h := ifn c_3 h
        refine lv_bipush (v := (-2)) hx hb dX11_feed_25 (by decide) ?_
        exact r_iret X hP hS dX11_feed_27 h
    · have h := ifn c_2 h
      refine lv_iconst (v := (-1)) hx hb dX11_feed_11 (by decide) ?_
      exact r_iret X hP hS dX11_feed_12 h

def fX11_rules  (m : Mm) : Option (Int32 × Mm) := bd (fX8_read 1 (m 0 1) m) fun r_1 m_2 => lt (up m_2 0 1 0) fun m_4 => (if r_1 < 0 then bd (fX8_copy 0 1 m_4) fun r_7 m_8 => some ((m_8 (rp 0 0) 0), m_8) else some ((((-100) : Int32) - r_1), m_4))
set_option maxHeartbeats 4000000 in
set_option maxRecDepth 100000 in
theorem tX11_rules {l : Launch} {D : va_G} {cA : Nat → ClassId} {A : Nat → Nat} (hI : InjA cN A) {m m' : Mm} {r : Int32} (h : fX11_rules m = some (r, m')) : Met0 l yX11_rules cX11_rules 2 (some .int) { frames := 27, cells := 0, slots := 0, locals := 613 } cLay cN D cA A [.ref (A 0)] m (some (.int r)) m' := by
  refine met0_of (by decide) (Nat.le_of_ble_eq_true rfl) hI ?_
  intro p e s m0 below meth c ls X hinit hP hS hl
  generalize ([.ref (A 0)] : List Value).toArray = args at X ⊢
  have hl : lv_has ls 2 [(0, .ref (A 0))] := hl
  have X : CX cLay cN D cA A p s m0 args meth c "BenchTowels" cX11_rules 2 (some .int) := X
  have hx := X.1
  have hb := X.2.1
  have hml := X.2.2.1
  have hown := X.2.2.2.1
  have hts := X.2.2.2.2.1
  have hF := X.2.2.2.2.2.2.2.2.1
  rewrite [fX11_rules] at h
  refine lv_aload_n hx hb dX11_rules_0 rfl (lv_at hl 0 rfl) ?_
  refine r_get kc_11 3 X hP (by decide) (L_bt _) (by decide) rfl wt_2_98 dX11_rules_1 ?_
  refine lv_aload_n hx hb dX11_rules_4 rfl (lv_at hl 0 rfl) ?_
  refine r_get kc_11 1 X hP (by decide) (L_bt _) (by decide) rfl wt_2_96 dX11_rules_5 ?_
  obtain ⟨r_1, m_2, hc_3, h⟩ := bd_some h
  refine c_V (rest := []) X hP hS (tX8_read hI (by decide) hc_3) (lt_r (by decide) (by decide)) (L_rules (by decide) _) rfl wt_3_89 wt_3_90 wt_3_91 wt_1_2 wt_3_92 ⟨rfl, hy_X8_read⟩ ⟨rfl, rfl⟩ ⟨Nat.le_of_ble_eq_true rfl, Nat.le_of_ble_eq_true rfl⟩ rfl hl.1 rfl (Nat.le_of_ble_eq_true rfl) dX11_rules_8 rfl (fun H locs hP hS => ?_)
  refine lv_istore_n (lv' := [(1, .int r_1), (0, .ref (A 0))]) hx hb dX11_rules_11 rfl hl (by decide) rfl (fun ls hl => ?_)
  refine lv_aload_n hx hb dX11_rules_12 rfl (lv_at hl 1 rfl) ?_
  refine lv_iconst (v := 0) hx hb dX11_rules_13 (by decide) ?_
  obtain ⟨m_4, em_5, h⟩ := lt_some h
  refine r_put kc_11 1 X hP hS (by decide) (L_bt _) (L_bt _) (by decide) wt_2_96 rfl (by decide +kernel) (Nat.le_of_ble_eq_true rfl) dX11_rules_14 em_5 (fun H locs hP hS => ?_)
  refine lv_iload_n hx hb dX11_rules_17 rfl (lv_at hl 0 rfl) ?_
  refine lv_if_lt (tgt := 26) hx hb dX11_rules_18 (by decide) (fun c_6 => ?_) (fun c_6 => ?_)
  · have h := ifp c_6 h
    refine lv_aload_n hx hb dX11_rules_26 rfl (lv_at hl 1 rfl) ?_
    refine r_get kc_11 2 X hP (by decide) (L_bt _) (by decide) rfl wt_2_97 dX11_rules_27 ?_
    refine lv_aload_n hx hb dX11_rules_30 rfl (lv_at hl 1 rfl) ?_
    refine r_get kc_11 3 X hP (by decide) (L_bt _) (by decide) rfl wt_2_98 dX11_rules_31 ?_
    obtain ⟨r_7, m_8, hc_9, h⟩ := bd_some h
    refine c_V (rest := []) X hP hS (tX8_copy hI (by decide) (by decide) hc_9) (lt_r (by decide) (by decide)) (L_rules (by decide) _) rfl wt_3_202 wt_3_203 wt_3_204 wt_1_2 wt_3_205 ⟨rfl, hy_X8_copy⟩ ⟨rfl, rfl⟩ ⟨Nat.le_of_ble_eq_true rfl, Nat.le_of_ble_eq_true rfl⟩ rfl hl.1 rfl (Nat.le_of_ble_eq_true rfl) dX11_rules_34 rfl (fun H locs hP hS => ?_)
    refine lv_aload_n hx hb dX11_rules_37 rfl (lv_at hl 1 rfl) ?_
    refine r_get kc_11 2 X hP (by decide) (L_bt _) (by decide) rfl wt_2_97 dX11_rules_38 ?_
    refine r_get kc_8 0 X hP (lt_r (by decide) (by decide)) (L_rules (by decide) _) (by decide) rfl wt_1_36 dX11_rules_41 ?_
    exact r_iret X hP hS dX11_rules_44 h
  · have h := ifn c_6 h
    refine lv_bipush (v := (-100)) hx hb dX11_rules_21 (by decide) ?_
    refine lv_iload_n hx hb dX11_rules_23 rfl (lv_at hl 0 rfl) ?_
    refine lv_isub hx hb dX11_rules_24 ?_
    exact r_iret X hP hS dX11_rules_25 h

def fX11_minute  (m : Mm) : Option (Int32 × Mm) := bd (fX1_isOver 0 m) fun r_1 m_2 => (if r_1 = 0 then bd (fX1_restAct 0 m_2) fun r_5 m_6 => bd (fX1_goBy 0 r_5 m_6) fun r_8 m_9 => some (r_8, m_9) else some ((-4), m_2))
set_option maxHeartbeats 4000000 in
set_option maxRecDepth 100000 in
theorem tX11_minute {l : Launch} {D : va_G} {cA : Nat → ClassId} {A : Nat → Nat} (hI : InjA cN A) {m m' : Mm} {r : Int32} (h : fX11_minute m = some (r, m')) : Met0 l yX11_minute cX11_minute 1 (some .int) { frames := 5, cells := 0, slots := 0, locals := 120 } cLay cN D cA A [.ref (A 0)] m (some (.int r)) m' := by
  refine met0_of (by decide) (Nat.le_of_ble_eq_true rfl) hI ?_
  intro p e s m0 below meth c ls X hinit hP hS hl
  generalize ([.ref (A 0)] : List Value).toArray = args at X ⊢
  have hl : lv_has ls 1 [(0, .ref (A 0))] := hl
  have X : CX cLay cN D cA A p s m0 args meth c "BenchTowels" cX11_minute 1 (some .int) := X
  have hx := X.1
  have hb := X.2.1
  have hml := X.2.2.1
  have hown := X.2.2.2.1
  have hts := X.2.2.2.2.1
  have hF := X.2.2.2.2.2.2.2.2.1
  rewrite [fX11_minute] at h
  refine lv_aload_n hx hb dX11_minute_0 rfl (lv_at hl 0 rfl) ?_
  refine r_get kc_11 7 X hP (by decide) (L_bt _) (by decide) rfl wt_2_102 dX11_minute_1 ?_
  obtain ⟨r_1, m_2, hc_3, h⟩ := bd_some h
  refine c_V (rest := []) X hP hS (tX1_isOver hI (by decide) hc_3) (lt_g (by decide) (by decide)) (L_gym (by decide) _) rfl wt_3_73 wt_3_74 wt_3_75 wt_1_10 wt_3_76 ⟨rfl, hy_X1_isOver⟩ ⟨rfl, rfl⟩ ⟨Nat.le_of_ble_eq_true rfl, Nat.le_of_ble_eq_true rfl⟩ rfl hl.1 rfl (Nat.le_of_ble_eq_true rfl) dX11_minute_4 rfl (fun H locs hP hS => ?_)
  refine lv_if_eq (tgt := 15) hx hb dX11_minute_7 (by decide) (fun c_4 => ?_) (fun c_4 => ?_)
  · have h := ifp c_4 h
    refine lv_aload_n hx hb dX11_minute_15 rfl (lv_at hl 0 rfl) ?_
    refine r_get kc_11 7 X hP (by decide) (L_bt _) (by decide) rfl wt_2_102 dX11_minute_16 ?_
    refine lv_aload_n hx hb dX11_minute_19 rfl (lv_at hl 0 rfl) ?_
    refine r_get kc_11 7 X hP (by decide) (L_bt _) (by decide) rfl wt_2_102 dX11_minute_20 ?_
    obtain ⟨r_5, m_6, hc_7, h⟩ := bd_some h
    refine c_V (rest := [.ref (A (gp 0 0))]) X hP hS (tX1_restAct hI (by decide) hc_7) (lt_g (by decide) (by decide)) (L_gym (by decide) _) rfl wt_3_213 wt_3_214 wt_3_215 wt_1_10 wt_3_216 ⟨rfl, hy_X1_restAct⟩ ⟨rfl, rfl⟩ ⟨Nat.le_of_ble_eq_true rfl, Nat.le_of_ble_eq_true rfl⟩ rfl hl.1 rfl (Nat.le_of_ble_eq_true rfl) dX11_minute_23 rfl (fun H locs hP hS => ?_)
    obtain ⟨r_8, m_9, hc_10, h⟩ := bd_some h
    refine c_V (rest := []) X hP hS (tX1_goBy hI (by decide) hc_10) (lt_g (by decide) (by decide)) (L_gym (by decide) _) rfl wt_3_218 wt_3_219 wt_3_220 wt_1_10 wt_3_221 ⟨rfl, hy_X1_goBy⟩ ⟨rfl, rfl⟩ ⟨Nat.le_of_ble_eq_true rfl, Nat.le_of_ble_eq_true rfl⟩ rfl hl.1 rfl (Nat.le_of_ble_eq_true rfl) dX11_minute_26 rfl (fun H locs hP hS => ?_)
    exact r_iret X hP hS dX11_minute_29 h
  · have h := ifn c_4 h
    refine lv_bipush (v := (-4)) hx hb dX11_minute_10 (by decide) ?_
    refine lv_goto (tgt := 29) hx hb dX11_minute_12 (by decide) ?_
    exact r_iret X hP hS dX11_minute_29 h

def fX11_on (a1 : Int32) (m : Mm) : Option (Int32 × Mm) := (if a1 < 0 then some ((-1), m) else (if a1 ≤ 16 then bd (fX1_copy 2 0 m) fun r_3 m_4 => bd (fX1_goRest 2 a1 m_4) fun r_6 m_7 => some (r_6, m_7) else some ((-1), m)))
set_option maxHeartbeats 4000000 in
set_option maxRecDepth 100000 in
theorem tX11_on {l : Launch} {D : va_G} {cA : Nat → ClassId} {A : Nat → Nat} (hI : InjA cN A) {a1 : Int32} {m m' : Mm} {r : Int32} (h : fX11_on a1 m = some (r, m')) : Met0 l yX11_on cX11_on 2 (some .int) { frames := 6, cells := 0, slots := 0, locals := 143 } cLay cN D cA A [.ref (A 0), .int a1] m (some (.int r)) m' := by
  refine met0_of (by decide) (Nat.le_of_ble_eq_true rfl) hI ?_
  intro p e s m0 below meth c ls X hinit hP hS hl
  generalize ([.ref (A 0), .int a1] : List Value).toArray = args at X ⊢
  have hl : lv_has ls 2 [(0, .ref (A 0)), (1, .int a1)] := hl
  have X : CX cLay cN D cA A p s m0 args meth c "BenchTowels" cX11_on 2 (some .int) := X
  have hx := X.1
  have hb := X.2.1
  have hml := X.2.2.1
  have hown := X.2.2.2.1
  have hts := X.2.2.2.2.1
  have hF := X.2.2.2.2.2.2.2.2.1
  rewrite [fX11_on] at h
  refine lv_iload_n hx hb dX11_on_0 rfl (lv_at hl 1 rfl) ?_
  refine lv_if_lt (tgt := 10) hx hb dX11_on_1 (by decide) (fun c_1 => ?_) (fun c_1 => ?_)
  · have h := ifp c_1 h
    refine lv_iconst (v := (-1)) hx hb dX11_on_10 (by decide) ?_
    exact r_iret X hP hS dX11_on_11 h
  · have h := ifn c_1 h
    refine lv_iload_n hx hb dX11_on_4 rfl (lv_at hl 1 rfl) ?_
    refine lv_bipush (v := 16) hx hb dX11_on_5 (by decide) ?_
    refine lv_icmp_le (tgt := 12) hx hb dX11_on_7 (by decide) (fun c_2 => ?_) (fun c_2 => ?_)
    · have h := ifp c_2 h
      refine lv_aload_n hx hb dX11_on_12 rfl (lv_at hl 0 rfl) ?_
      refine r_get kc_11 9 X hP (by decide) (L_bt _) (by decide) rfl wt_2_104 dX11_on_13 ?_
      refine lv_aload_n hx hb dX11_on_16 rfl (lv_at hl 0 rfl) ?_
      refine r_get kc_11 7 X hP (by decide) (L_bt _) (by decide) rfl wt_2_102 dX11_on_17 ?_
      obtain ⟨r_3, m_4, hc_5, h⟩ := bd_some h
      refine c_V (rest := []) X hP hS (tX1_copy hI (by decide) (by decide) hc_5) (lt_g (by decide) (by decide)) (L_gym (by decide) _) rfl wt_4_2 wt_4_3 wt_4_4 wt_1_10 wt_4_5 ⟨rfl, hy_X1_copy⟩ ⟨rfl, rfl⟩ ⟨Nat.le_of_ble_eq_true rfl, Nat.le_of_ble_eq_true rfl⟩ rfl hl.1 rfl (Nat.le_of_ble_eq_true rfl) dX11_on_20 rfl (fun H locs hP hS => ?_)
      refine lv_aload_n hx hb dX11_on_23 rfl (lv_at hl 0 rfl) ?_
      refine r_get kc_11 9 X hP (by decide) (L_bt _) (by decide) rfl wt_2_104 dX11_on_24 ?_
      refine lv_iload_n hx hb dX11_on_27 rfl (lv_at hl 1 rfl) ?_
      obtain ⟨r_6, m_7, hc_8, h⟩ := bd_some h
      refine c_V (rest := []) X hP hS (tX1_goRest hI (by decide) hc_8) (lt_g (by decide) (by decide)) (L_gym (by decide) _) rfl wt_4_11 wt_4_12 wt_4_13 wt_1_10 wt_4_14 ⟨rfl, hy_X1_goRest⟩ ⟨rfl, rfl⟩ ⟨Nat.le_of_ble_eq_true rfl, Nat.le_of_ble_eq_true rfl⟩ rfl hl.1 rfl (Nat.le_of_ble_eq_true rfl) dX11_on_28 rfl (fun H locs hP hS => ?_)
      exact r_iret X hP hS dX11_on_31 h
    · have h := ifn c_2 h
      refine lv_iconst (v := (-1)) hx hb dX11_on_10 (by decide) ?_
      exact r_iret X hP hS dX11_on_11 h

def fX11_when_32  : Nat → Int32 → Int32 → Mm → Option (Int32 × Mm)
  | 0, _, _, _ => none
  | n + 1, x1, x2, m => (if ((m (gp 0 0) 7) : Int32) ≤ x2 then some ((-3), m) else bd (fX1_restAct 2 m) fun r_11 m_12 => bd (fX1_goBy 2 r_11 m_12) fun r_14 m_15 => (if (m_15 (gp 2 0) 10) = x1 then some (x2, m_15) else lt ((x2 : Int32) + 1) fun x2_18 => (fX11_when_32 n x1 x2_18 m_15)))
set_option maxHeartbeats 4000000 in
set_option maxRecDepth 100000 in
theorem tX11_when_32 (hI : InjA cN A)  {r : Int32} {m' : Mm} (X : CX cLay cN D cA A p s m0 args meth c "BenchTowels" cX11_when 3 (some .int)) : ∀ (n : Nat) (x1 : Int32) (x2 : Int32) (m : Mm) (H : Heap) (locs : List Loc) (ls : Array Slot), fX11_when_32 n x1 x2 m = some (r, m') → va_P D vwCl (wsOf cLay cN cA A m) H → va_S (AW cN A) s.heap H locs → lv_has ls 3 [(0, .ref (A 0)), (1, .int x1), (2, .int x2)] → W p l e { frames := 5, cells := 0, slots := 0, locals := 120 } s m0 args below meth c H locs 0 0 (ZR below args s cLay cN D cA A (some (.int r)) m') (F0 m0 32 ls []) := by
  have hx := X.1
  have hb := X.2.1
  have hml := X.2.2.1
  have hown := X.2.2.2.1
  have hts := X.2.2.2.2.1
  have hF := X.2.2.2.2.2.2.2.2.1
  intro n
  induction n with
  | zero =>
    intro x1 x2 m H locs ls h hP hS hl
    exact absurd h (by rewrite [fX11_when_32]; exact fun q => by cases q)
  | succ n ih =>
    intro x1 x2 m H locs ls h hP hS hl
    rewrite [fX11_when_32] at h
    refine lv_iload_n hx hb dX11_when_32 rfl (lv_at hl 2 rfl) ?_
    refine lv_aload_n hx hb dX11_when_33 rfl (lv_at hl 0 rfl) ?_
    refine r_get kc_11 7 X hP (by decide) (L_bt _) (by decide) rfl wt_2_102 dX11_when_34 ?_
    refine r_get kc_1 7 X hP (lt_g (by decide) (by decide)) (L_gym (by decide) _) (by decide) rfl wt_1_187 dX11_when_37 ?_
    refine lv_icmp_ge (tgt := 77) hx hb dX11_when_40 (by decide) (fun c_10 => ?_) (fun c_10 => ?_)
    · have h := ifp c_10 h
      refine lv_bipush (v := (-3)) hx hb dX11_when_77 (by decide) ?_
      exact r_iret X hP hS dX11_when_79 h
    · have h := ifn c_10 h
      refine lv_aload_n hx hb dX11_when_43 rfl (lv_at hl 0 rfl) ?_
      refine r_get kc_11 9 X hP (by decide) (L_bt _) (by decide) rfl wt_2_104 dX11_when_44 ?_
      refine lv_aload_n hx hb dX11_when_47 rfl (lv_at hl 0 rfl) ?_
      refine r_get kc_11 9 X hP (by decide) (L_bt _) (by decide) rfl wt_2_104 dX11_when_48 ?_
      obtain ⟨r_11, m_12, hc_13, h⟩ := bd_some h
      refine c_V (rest := [.ref (A (gp 2 0))]) X hP hS (tX1_restAct hI (by decide) hc_13) (lt_g (by decide) (by decide)) (L_gym (by decide) _) rfl wt_3_213 wt_3_214 wt_3_215 wt_1_10 wt_3_216 ⟨rfl, hy_X1_restAct⟩ ⟨rfl, rfl⟩ ⟨Nat.le_of_ble_eq_true rfl, Nat.le_of_ble_eq_true rfl⟩ rfl hl.1 rfl (Nat.le_of_ble_eq_true rfl) dX11_when_51 rfl (fun H locs hP hS => ?_)
      obtain ⟨r_14, m_15, hc_16, h⟩ := bd_some h
      refine c_V (rest := []) X hP hS (tX1_goBy hI (by decide) hc_16) (lt_g (by decide) (by decide)) (L_gym (by decide) _) rfl wt_3_218 wt_3_219 wt_3_220 wt_1_10 wt_3_221 ⟨rfl, hy_X1_goBy⟩ ⟨rfl, rfl⟩ ⟨Nat.le_of_ble_eq_true rfl, Nat.le_of_ble_eq_true rfl⟩ rfl hl.1 rfl (Nat.le_of_ble_eq_true rfl) dX11_when_54 rfl (fun H locs hP hS => ?_)
      refine lv_pop hx hb dX11_when_57 rfl ?_
      refine lv_aload_n hx hb dX11_when_58 rfl (lv_at hl 0 rfl) ?_
      refine r_get kc_11 9 X hP (by decide) (L_bt _) (by decide) rfl wt_2_104 dX11_when_59 ?_
      refine r_get kc_1 10 X hP (lt_g (by decide) (by decide)) (L_gym (by decide) _) (by decide) rfl wt_1_194 dX11_when_62 ?_
      refine lv_iload_n hx hb dX11_when_65 rfl (lv_at hl 1 rfl) ?_
      refine lv_icmp_ne (tgt := 71) hx hb dX11_when_66 (by decide) (fun c_17 => ?_) (fun c_17 => ?_)
      · have h := ifn c_17 h
        obtain ⟨x2_18, ex_19, h⟩ := lt_some h
        refine lv_iinc (v := x2_18) (lv' := [(2, .int x2_18), (0, .ref (A 0)), (1, .int x1)]) hx hb dX11_when_71 hl (k := 2) rfl (by rw [ex_19]; rfl) (by decide) rfl (fun ls hl => ?_)
        refine lv_goto (tgt := 32) hx hb dX11_when_74 (by decide) ?_
        exact ih x1 x2_18 m_15 _ _ _  h hP hS (lv_sub hl [1, 2, 0] rfl)
      · have h := ifp c_17 h
        refine lv_iload_n hx hb dX11_when_69 rfl (lv_at hl 2 rfl) ?_
        exact r_iret X hP hS dX11_when_70 h

def fX11_when (a1 : Int32) (m : Mm) : Option (Int32 × Mm) := bd (fX1_has 0 a1 m) fun r_1 m_2 => (if r_1 = 0 then some ((-1), m_2) else bd (fX1_copy 2 0 m_2) fun r_5 m_6 => lt (m_6 (gp 0 0) 6) fun x2_8 => (fX11_when_32  FL a1 x2_8 m_6))
set_option maxHeartbeats 4000000 in
set_option maxRecDepth 100000 in
theorem tX11_when {l : Launch} {D : va_G} {cA : Nat → ClassId} {A : Nat → Nat} (hI : InjA cN A) {a1 : Int32} {m m' : Mm} {r : Int32} (h : fX11_when a1 m = some (r, m')) : Met0 l yX11_when cX11_when 3 (some .int) { frames := 5, cells := 0, slots := 0, locals := 120 } cLay cN D cA A [.ref (A 0), .int a1] m (some (.int r)) m' := by
  refine met0_of (by decide) (Nat.le_of_ble_eq_true rfl) hI ?_
  intro p e s m0 below meth c ls X hinit hP hS hl
  generalize ([.ref (A 0), .int a1] : List Value).toArray = args at X ⊢
  have hl : lv_has ls 3 [(0, .ref (A 0)), (1, .int a1)] := hl
  have X : CX cLay cN D cA A p s m0 args meth c "BenchTowels" cX11_when 3 (some .int) := X
  have hx := X.1
  have hb := X.2.1
  have hml := X.2.2.1
  have hown := X.2.2.2.1
  have hts := X.2.2.2.2.1
  have hF := X.2.2.2.2.2.2.2.2.1
  rewrite [fX11_when] at h
  refine lv_aload_n hx hb dX11_when_0 rfl (lv_at hl 0 rfl) ?_
  refine r_get kc_11 7 X hP (by decide) (L_bt _) (by decide) rfl wt_2_102 dX11_when_1 ?_
  refine lv_iload_n hx hb dX11_when_4 rfl (lv_at hl 1 rfl) ?_
  obtain ⟨r_1, m_2, hc_3, h⟩ := bd_some h
  refine c_V (rest := []) X hP hS (tX1_has hI (by decide) hc_3) (lt_g (by decide) (by decide)) (L_gym (by decide) _) rfl wt_2_160 wt_2_161 wt_2_162 wt_1_10 wt_2_163 ⟨rfl, hy_X1_has⟩ ⟨rfl, rfl⟩ ⟨Nat.le_of_ble_eq_true rfl, Nat.le_of_ble_eq_true rfl⟩ rfl hl.1 rfl (Nat.le_of_ble_eq_true rfl) dX11_when_5 rfl (fun H locs hP hS => ?_)
  refine lv_if_ne (tgt := 13) hx hb dX11_when_8 (by decide) (fun c_4 => ?_) (fun c_4 => ?_)
  · have h := ifn c_4 h
    refine lv_aload_n hx hb dX11_when_13 rfl (lv_at hl 0 rfl) ?_
    refine r_get kc_11 9 X hP (by decide) (L_bt _) (by decide) rfl wt_2_104 dX11_when_14 ?_
    refine lv_aload_n hx hb dX11_when_17 rfl (lv_at hl 0 rfl) ?_
    refine r_get kc_11 7 X hP (by decide) (L_bt _) (by decide) rfl wt_2_102 dX11_when_18 ?_
    obtain ⟨r_5, m_6, hc_7, h⟩ := bd_some h
    refine c_V (rest := []) X hP hS (tX1_copy hI (by decide) (by decide) hc_7) (lt_g (by decide) (by decide)) (L_gym (by decide) _) rfl wt_4_2 wt_4_3 wt_4_4 wt_1_10 wt_4_5 ⟨rfl, hy_X1_copy⟩ ⟨rfl, rfl⟩ ⟨Nat.le_of_ble_eq_true rfl, Nat.le_of_ble_eq_true rfl⟩ rfl hl.1 rfl (Nat.le_of_ble_eq_true rfl) dX11_when_21 rfl (fun H locs hP hS => ?_)
    refine lv_aload_n hx hb dX11_when_24 rfl (lv_at hl 0 rfl) ?_
    refine r_get kc_11 7 X hP (by decide) (L_bt _) (by decide) rfl wt_2_102 dX11_when_25 ?_
    refine r_get kc_1 6 X hP (lt_g (by decide) (by decide)) (L_gym (by decide) _) (by decide) rfl wt_1_183 dX11_when_28 ?_
    obtain ⟨x2_8, ex_9, h⟩ := lt_some h
    refine lv_ren ex_9 ?_
    refine lv_istore_n (lv' := [(2, .int x2_8), (0, .ref (A 0)), (1, .int a1)]) hx hb dX11_when_31 rfl hl (by decide) rfl (fun ls hl => ?_)
    exact tX11_when_32 hI    X FL a1 x2_8 m_6 _ _ _  h hP hS (lv_sub hl [1, 2, 0] rfl)
  · have h := ifp c_4 h
    refine lv_iconst (v := (-1)) hx hb dX11_when_11 (by decide) ?_
    exact r_iret X hP hS dX11_when_12 h

def fX11_bestFor_16  : Nat → Int32 → Int32 → Int32 → Int32 → Int32 → Mm → Option (Int32 × Mm)
  | 0, _, _, _, _, _, _ => none
  | n + 1, x1, x2, x3, x4, x5, m => gx x2 5 ((if ((sMost (ix x2)) : Int32) < x5 then some (x4, m) else bd (fX1_copy 2 0 m) fun r_8 m_9 => gx x1 6 (lt (up m_9 (gp 2 (2 + (ix x2))) (ix x1) x5) fun m_13 => bd (fX1_goRest 2 (16 : Int32) m_13) fun r_15 m_16 => (if r_15 ≤ x3 then lt ((x5 : Int32) + 1) fun x5_19 => (fX11_bestFor_16 n x1 x2 x3 x4 x5_19 m_16) else lt ((x5 : Int32) + 1) fun x5_21 => (fX11_bestFor_16 n x1 x2 r_15 x5 x5_21 m_16)))))
set_option maxHeartbeats 4000000 in
set_option maxRecDepth 100000 in
theorem tX11_bestFor_16 (hI : InjA cN A)  {r : Int32} {m' : Mm} (X : CX cLay cN D cA A p s m0 args meth c "BenchTowels" cX11_bestFor 7 (some .int)) : ∀ (n : Nat) (x1 : Int32) (x2 : Int32) (x3 : Int32) (x4 : Int32) (x5 : Int32) (m : Mm) (H : Heap) (locs : List Loc) (ls : Array Slot), fX11_bestFor_16 n x1 x2 x3 x4 x5 m = some (r, m') → va_P D vwCl (wsOf cLay cN cA A m) H → va_S (AW cN A) s.heap H locs → lv_has ls 7 [(0, .ref (A 0)), (1, .int x1), (2, .int x2), (3, .int x3), (4, .int x4), (5, .int x5)] → W p l e { frames := 6, cells := 0, slots := 0, locals := 143 } s m0 args below meth c H locs 0 0 (ZR below args s cLay cN D cA A (some (.int r)) m') (F0 m0 16 ls []) := by
  have hx := X.1
  have hb := X.2.1
  have hml := X.2.2.1
  have hown := X.2.2.2.1
  have hts := X.2.2.2.2.1
  have hF := X.2.2.2.2.2.2.2.2.1
  intro n
  induction n with
  | zero =>
    intro x1 x2 x3 x4 x5 m H locs ls h hP hS hl
    exact absurd h (by rewrite [fX11_bestFor_16]; exact fun q => by cases q)
  | succ n ih =>
    intro x1 x2 x3 x4 x5 m H locs ls h hP hS hl
    rewrite [fX11_bestFor_16] at h
    refine lv_iload hx hb dX11_bestFor_16 (lv_at hl 5 rfl) ?_
    refine va_gets hx hb hF.2.1.1 hS hown (hts _ wt_2_150) (fun _ q => q) dX11_bestFor_18 ?_
    refine lv_iload_n hx hb dX11_bestFor_21 rfl (lv_at hl 2 rfl) ?_
    obtain ⟨hin_6, h⟩ := gx_some h
    refine va_ti hx hb hF.2.1.2 hS hin_6 rfl dX11_bestFor_22 ?_
    refine lv_icmp_gt (tgt := 80) hx hb dX11_bestFor_23 (by decide) (fun c_7 => ?_) (fun c_7 => ?_)
    · have h := ifp c_7 h
      refine lv_iload hx hb dX11_bestFor_80 (lv_at hl 4 rfl) ?_
      exact r_iret X hP hS dX11_bestFor_82 h
    · have h := ifn c_7 h
      refine lv_aload_n hx hb dX11_bestFor_26 rfl (lv_at hl 0 rfl) ?_
      refine r_get kc_11 9 X hP (by decide) (L_bt _) (by decide) rfl wt_2_104 dX11_bestFor_27 ?_
      refine lv_aload_n hx hb dX11_bestFor_30 rfl (lv_at hl 0 rfl) ?_
      refine r_get kc_11 7 X hP (by decide) (L_bt _) (by decide) rfl wt_2_102 dX11_bestFor_31 ?_
      obtain ⟨r_8, m_9, hc_10, h⟩ := bd_some h
      refine c_V (rest := []) X hP hS (tX1_copy hI (by decide) (by decide) hc_10) (lt_g (by decide) (by decide)) (L_gym (by decide) _) rfl wt_4_2 wt_4_3 wt_4_4 wt_1_10 wt_4_5 ⟨rfl, hy_X1_copy⟩ ⟨rfl, rfl⟩ ⟨Nat.le_of_ble_eq_true rfl, Nat.le_of_ble_eq_true rfl⟩ rfl hl.1 rfl (Nat.le_of_ble_eq_true rfl) dX11_bestFor_34 rfl (fun H locs hP hS => ?_)
      refine lv_aload_n hx hb dX11_bestFor_37 rfl (lv_at hl 0 rfl) ?_
      refine r_get kc_11 9 X hP (by decide) (L_bt _) (by decide) rfl wt_2_104 dX11_bestFor_38 ?_
      refine r_get kc_1 2 X hP (lt_g (by decide) (by decide)) (L_gym (by decide) _) (by decide) rfl wt_1_173 dX11_bestFor_41 ?_
      refine lv_iload_n hx hb dX11_bestFor_44 rfl (lv_at hl 2 rfl) ?_
      have q_11 := vp_lt hin_6
      refine r_row (q' := (gp 2 (2 + (ix x2)))) X hP (lt_g (by decide) (by decide)) ((Lq_g_1 (by decide)) _) hin_6 rfl q_11 rfl dX11_bestFor_45 ?_
      refine lv_iload_n hx hb dX11_bestFor_46 rfl (lv_at hl 1 rfl) ?_
      refine lv_iload hx hb dX11_bestFor_47 (lv_at hl 5 rfl) ?_
      obtain ⟨hin_12, h⟩ := gx_some h
      obtain ⟨m_13, em_14, h⟩ := lt_some h
      refine r_iast X hP hS (lt_g2 (j := (ix x2)) (by decide) q_11) (La_g_row (j := (ix x2)) (by decide) q_11) hin_12 rfl dX11_bestFor_49 em_14 (fun H locs hP hS => ?_)
      refine lv_aload_n hx hb dX11_bestFor_50 rfl (lv_at hl 0 rfl) ?_
      refine r_get kc_11 9 X hP (by decide) (L_bt _) (by decide) rfl wt_2_104 dX11_bestFor_51 ?_
      refine lv_bipush (v := 16) hx hb dX11_bestFor_54 (by decide) ?_
      obtain ⟨r_15, m_16, hc_17, h⟩ := bd_some h
      refine c_V (rest := []) X hP hS (tX1_goRest hI (by decide) hc_17) (lt_g (by decide) (by decide)) (L_gym (by decide) _) rfl wt_4_11 wt_4_12 wt_4_13 wt_1_10 wt_4_14 ⟨rfl, hy_X1_goRest⟩ ⟨rfl, rfl⟩ ⟨Nat.le_of_ble_eq_true rfl, Nat.le_of_ble_eq_true rfl⟩ rfl hl.1 rfl (Nat.le_of_ble_eq_true rfl) dX11_bestFor_56 rfl (fun H locs hP hS => ?_)
      refine lv_istore (lv' := [(6, .int r_15), (0, .ref (A 0)), (1, .int x1), (2, .int x2), (3, .int x3), (4, .int x4), (5, .int x5)]) hx hb dX11_bestFor_59 hl (by decide) rfl (fun ls hl => ?_)
      refine lv_iload hx hb dX11_bestFor_61 (lv_at hl 0 rfl) ?_
      refine lv_iload_n hx hb dX11_bestFor_63 rfl (lv_at hl 4 rfl) ?_
      refine lv_icmp_le (tgt := 74) hx hb dX11_bestFor_64 (by decide) (fun c_18 => ?_) (fun c_18 => ?_)
      · have h := ifp c_18 h
        obtain ⟨x5_19, ex_20, h⟩ := lt_some h
        refine lv_iinc (v := x5_19) (lv' := [(5, .int x5_19), (6, .int r_15), (0, .ref (A 0)), (1, .int x1), (2, .int x2), (3, .int x3), (4, .int x4)]) hx hb dX11_bestFor_74 hl (k := 6) rfl (by rw [ex_20]; rfl) (by decide) rfl (fun ls hl => ?_)
        refine lv_goto (tgt := 16) hx hb dX11_bestFor_77 (by decide) ?_
        exact ih x1 x2 x3 x4 x5_19 m_16 _ _ _  h hP hS (lv_sub hl [2, 3, 4, 5, 6, 0] rfl)
      · have h := ifn c_18 h
        refine lv_iload hx hb dX11_bestFor_67 (lv_at hl 0 rfl) ?_
        refine lv_istore_n (lv' := [(3, .int r_15), (6, .int r_15), (0, .ref (A 0)), (1, .int x1), (2, .int x2), (4, .int x4), (5, .int x5)]) hx hb dX11_bestFor_69 rfl hl (by decide) rfl (fun ls hl => ?_)
        refine lv_iload hx hb dX11_bestFor_70 (lv_at hl 6 rfl) ?_
        refine lv_istore (lv' := [(4, .int x5), (3, .int r_15), (6, .int r_15), (0, .ref (A 0)), (1, .int x1), (2, .int x2), (5, .int x5)]) hx hb dX11_bestFor_72 hl (by decide) rfl (fun ls hl => ?_)
        obtain ⟨x5_21, ex_22, h⟩ := lt_some h
        refine lv_iinc (v := x5_21) (lv' := [(5, .int x5_21), (4, .int x5), (3, .int r_15), (6, .int r_15), (0, .ref (A 0)), (1, .int x1), (2, .int x2)]) hx hb dX11_bestFor_74 hl (k := 6) rfl (by rw [ex_22]; rfl) (by decide) rfl (fun ls hl => ?_)
        refine lv_goto (tgt := 16) hx hb dX11_bestFor_77 (by decide) ?_
        exact ih x1 x2 r_15 x5 x5_21 m_16 _ _ _  h hP hS (lv_sub hl [4, 5, 6, 2, 1, 0] rfl)

def fX11_bestFor (a1 : Int32) (a2 : Int32) (m : Mm) : Option (Int32 × Mm) := gx a2 5 (lt (sLeast (ix a2)) fun x4_2 => lt (sLeast (ix a2)) fun x5_4 => (fX11_bestFor_16  FL a1 a2 (-1) x4_2 x5_4 m))
set_option maxHeartbeats 4000000 in
set_option maxRecDepth 100000 in
theorem tX11_bestFor {l : Launch} {D : va_G} {cA : Nat → ClassId} {A : Nat → Nat} (hI : InjA cN A) {a1 : Int32} {a2 : Int32} {m m' : Mm} {r : Int32} (h : fX11_bestFor a1 a2 m = some (r, m')) : Met0 l yX11_bestFor cX11_bestFor 7 (some .int) { frames := 6, cells := 0, slots := 0, locals := 143 } cLay cN D cA A [.ref (A 0), .int a1, .int a2] m (some (.int r)) m' := by
  refine met0_of (by decide) (Nat.le_of_ble_eq_true rfl) hI ?_
  intro p e s m0 below meth c ls X hinit hP hS hl
  generalize ([.ref (A 0), .int a1, .int a2] : List Value).toArray = args at X ⊢
  have hl : lv_has ls 7 [(0, .ref (A 0)), (1, .int a1), (2, .int a2)] := hl
  have X : CX cLay cN D cA A p s m0 args meth c "BenchTowels" cX11_bestFor 7 (some .int) := X
  have hx := X.1
  have hb := X.2.1
  have hml := X.2.2.1
  have hown := X.2.2.2.1
  have hts := X.2.2.2.2.1
  have hF := X.2.2.2.2.2.2.2.2.1
  rewrite [fX11_bestFor] at h
  refine lv_iconst (v := (-1)) hx hb dX11_bestFor_0 (by decide) ?_
  refine lv_istore_n (lv' := [(3, .int (-1)), (0, .ref (A 0)), (1, .int a1), (2, .int a2)]) hx hb dX11_bestFor_1 rfl hl (by decide) rfl (fun ls hl => ?_)
  refine va_gets hx hb hF.1.1 hS hown (hts _ wt_2_148) (fun _ q => q) dX11_bestFor_2 ?_
  refine lv_iload_n hx hb dX11_bestFor_5 rfl (lv_at hl 3 rfl) ?_
  obtain ⟨hin_1, h⟩ := gx_some h
  refine va_ti hx hb hF.1.2 hS hin_1 rfl dX11_bestFor_6 ?_
  obtain ⟨x4_2, ex_3, h⟩ := lt_some h
  refine lv_ren ex_3 ?_
  refine lv_istore (lv' := [(4, .int x4_2), (3, .int (-1)), (0, .ref (A 0)), (1, .int a1), (2, .int a2)]) hx hb dX11_bestFor_7 hl (by decide) rfl (fun ls hl => ?_)
  refine va_gets hx hb hF.1.1 hS hown (hts _ wt_2_148) (fun _ q => q) dX11_bestFor_9 ?_
  refine lv_iload_n hx hb dX11_bestFor_12 rfl (lv_at hl 4 rfl) ?_
  refine va_ti hx hb hF.1.2 hS hin_1 rfl dX11_bestFor_13 ?_
  obtain ⟨x5_4, ex_5, h⟩ := lt_some h
  refine lv_ren ex_5 ?_
  refine lv_istore (lv' := [(5, .int x5_4), (4, .int x4_2), (3, .int (-1)), (0, .ref (A 0)), (1, .int a1), (2, .int a2)]) hx hb dX11_bestFor_14 hl (by decide) rfl (fun ls hl => ?_)
  exact tX11_bestFor_16 hI    X FL a1 a2 (-1) x4_2 x5_4 m _ _ _  h hP hS (lv_sub hl [3, 4, 5, 2, 1, 0] rfl)

def fX11_weightFor (a1 : Int32) (m : Mm) : Option (Int32 × Mm) := bd (fX1_has 0 a1 m) fun r_1 m_2 => (if r_1 = 0 then some ((-1), m_2) else bd (fX11_bestFor a1 (2 : Int32) m_2) fun r_5 m_6 => some (r_5, m_6))
set_option maxHeartbeats 4000000 in
set_option maxRecDepth 100000 in
theorem tX11_weightFor {l : Launch} {D : va_G} {cA : Nat → ClassId} {A : Nat → Nat} (hI : InjA cN A) {a1 : Int32} {m m' : Mm} {r : Int32} (h : fX11_weightFor a1 m = some (r, m')) : Met0 l yX11_weightFor cX11_weightFor 2 (some .int) { frames := 7, cells := 0, slots := 0, locals := 169 } cLay cN D cA A [.ref (A 0), .int a1] m (some (.int r)) m' := by
  refine met0_of (by decide) (Nat.le_of_ble_eq_true rfl) hI ?_
  intro p e s m0 below meth c ls X hinit hP hS hl
  generalize ([.ref (A 0), .int a1] : List Value).toArray = args at X ⊢
  have hl : lv_has ls 2 [(0, .ref (A 0)), (1, .int a1)] := hl
  have X : CX cLay cN D cA A p s m0 args meth c "BenchTowels" cX11_weightFor 2 (some .int) := X
  have hx := X.1
  have hb := X.2.1
  have hml := X.2.2.1
  have hown := X.2.2.2.1
  have hts := X.2.2.2.2.1
  have hF := X.2.2.2.2.2.2.2.2.1
  rewrite [fX11_weightFor] at h
  refine lv_aload_n hx hb dX11_weightFor_0 rfl (lv_at hl 0 rfl) ?_
  refine r_get kc_11 7 X hP (by decide) (L_bt _) (by decide) rfl wt_2_102 dX11_weightFor_1 ?_
  refine lv_iload_n hx hb dX11_weightFor_4 rfl (lv_at hl 1 rfl) ?_
  obtain ⟨r_1, m_2, hc_3, h⟩ := bd_some h
  refine c_V (rest := []) X hP hS (tX1_has hI (by decide) hc_3) (lt_g (by decide) (by decide)) (L_gym (by decide) _) rfl wt_2_160 wt_2_161 wt_2_162 wt_1_10 wt_2_163 ⟨rfl, hy_X1_has⟩ ⟨rfl, rfl⟩ ⟨Nat.le_of_ble_eq_true rfl, Nat.le_of_ble_eq_true rfl⟩ rfl hl.1 rfl (Nat.le_of_ble_eq_true rfl) dX11_weightFor_5 rfl (fun H locs hP hS => ?_)
  refine lv_if_eq (tgt := 20) hx hb dX11_weightFor_8 (by decide) (fun c_4 => ?_) (fun c_4 => ?_)
  · have h := ifp c_4 h
    refine lv_iconst (v := (-1)) hx hb dX11_weightFor_20 (by decide) ?_
    exact r_iret X hP hS dX11_weightFor_21 h
  · have h := ifn c_4 h
    refine lv_aload_n hx hb dX11_weightFor_11 rfl (lv_at hl 0 rfl) ?_
    refine lv_iload_n hx hb dX11_weightFor_12 rfl (lv_at hl 1 rfl) ?_
    refine lv_iconst (v := 2) hx hb dX11_weightFor_13 (by decide) ?_
    obtain ⟨r_5, m_6, hc_7, h⟩ := bd_some h
    refine c_V (rest := []) X hP hS (tX11_bestFor hI  hc_7) (by decide) (L_bt _) rfl wt_4_26 wt_4_28 ws_2_0 wt_1_1 wt_4_29 ⟨rfl, hy_X11_bestFor⟩ ⟨rfl, rfl⟩ ⟨Nat.le_of_ble_eq_true rfl, Nat.le_of_ble_eq_true rfl⟩ rfl hl.1 rfl (Nat.le_of_ble_eq_true rfl) dX11_weightFor_14 rfl (fun H locs hP hS => ?_)
    refine lv_goto (tgt := 21) hx hb dX11_weightFor_17 (by decide) ?_
    exact r_iret X hP hS dX11_weightFor_21 h

def fX11_machineFor (a1 : Int32) (m : Mm) : Option (Int32 × Mm) := bd (fX1_has 0 a1 m) fun r_1 m_2 => (if r_1 = 0 then some ((-1), m_2) else bd (fX11_bestFor a1 (1 : Int32) m_2) fun r_5 m_6 => some (r_5, m_6))
set_option maxHeartbeats 4000000 in
set_option maxRecDepth 100000 in
theorem tX11_machineFor {l : Launch} {D : va_G} {cA : Nat → ClassId} {A : Nat → Nat} (hI : InjA cN A) {a1 : Int32} {m m' : Mm} {r : Int32} (h : fX11_machineFor a1 m = some (r, m')) : Met0 l yX11_machineFor cX11_machineFor 2 (some .int) { frames := 7, cells := 0, slots := 0, locals := 169 } cLay cN D cA A [.ref (A 0), .int a1] m (some (.int r)) m' := by
  refine met0_of (by decide) (Nat.le_of_ble_eq_true rfl) hI ?_
  intro p e s m0 below meth c ls X hinit hP hS hl
  generalize ([.ref (A 0), .int a1] : List Value).toArray = args at X ⊢
  have hl : lv_has ls 2 [(0, .ref (A 0)), (1, .int a1)] := hl
  have X : CX cLay cN D cA A p s m0 args meth c "BenchTowels" cX11_machineFor 2 (some .int) := X
  have hx := X.1
  have hb := X.2.1
  have hml := X.2.2.1
  have hown := X.2.2.2.1
  have hts := X.2.2.2.2.1
  have hF := X.2.2.2.2.2.2.2.2.1
  rewrite [fX11_machineFor] at h
  refine lv_aload_n hx hb dX11_machineFor_0 rfl (lv_at hl 0 rfl) ?_
  refine r_get kc_11 7 X hP (by decide) (L_bt _) (by decide) rfl wt_2_102 dX11_machineFor_1 ?_
  refine lv_iload_n hx hb dX11_machineFor_4 rfl (lv_at hl 1 rfl) ?_
  obtain ⟨r_1, m_2, hc_3, h⟩ := bd_some h
  refine c_V (rest := []) X hP hS (tX1_has hI (by decide) hc_3) (lt_g (by decide) (by decide)) (L_gym (by decide) _) rfl wt_2_160 wt_2_161 wt_2_162 wt_1_10 wt_2_163 ⟨rfl, hy_X1_has⟩ ⟨rfl, rfl⟩ ⟨Nat.le_of_ble_eq_true rfl, Nat.le_of_ble_eq_true rfl⟩ rfl hl.1 rfl (Nat.le_of_ble_eq_true rfl) dX11_machineFor_5 rfl (fun H locs hP hS => ?_)
  refine lv_if_eq (tgt := 20) hx hb dX11_machineFor_8 (by decide) (fun c_4 => ?_) (fun c_4 => ?_)
  · have h := ifp c_4 h
    refine lv_iconst (v := (-1)) hx hb dX11_machineFor_20 (by decide) ?_
    exact r_iret X hP hS dX11_machineFor_21 h
  · have h := ifn c_4 h
    refine lv_aload_n hx hb dX11_machineFor_11 rfl (lv_at hl 0 rfl) ?_
    refine lv_iload_n hx hb dX11_machineFor_12 rfl (lv_at hl 1 rfl) ?_
    refine lv_iconst (v := 1) hx hb dX11_machineFor_13 (by decide) ?_
    obtain ⟨r_5, m_6, hc_7, h⟩ := bd_some h
    refine c_V (rest := []) X hP hS (tX11_bestFor hI  hc_7) (by decide) (L_bt _) rfl wt_4_26 wt_4_28 ws_2_0 wt_1_1 wt_4_29 ⟨rfl, hy_X11_bestFor⟩ ⟨rfl, rfl⟩ ⟨Nat.le_of_ble_eq_true rfl, Nat.le_of_ble_eq_true rfl⟩ rfl hl.1 rfl (Nat.le_of_ble_eq_true rfl) dX11_machineFor_14 rfl (fun H locs hP hS => ?_)
    refine lv_goto (tgt := 21) hx hb dX11_machineFor_17 (by decide) ?_
    exact r_iret X hP hS dX11_machineFor_21 h

def fX11_gather (a1 : Int32) (m : Mm) : Option (Int32 × Mm) := bd (fX1_isOfSets 0 a1 m) fun r_1 m_2 => (if r_1 = 0 then some ((-1), m_2) else bd (fX1_gatherBy 0 a1 m_2) fun r_5 m_6 => some (r_5, m_6))
set_option maxHeartbeats 4000000 in
set_option maxRecDepth 100000 in
theorem tX11_gather {l : Launch} {D : va_G} {cA : Nat → ClassId} {A : Nat → Nat} (hI : InjA cN A) {a1 : Int32} {m m' : Mm} {r : Int32} (h : fX11_gather a1 m = some (r, m')) : Met0 l yX11_gather cX11_gather 2 (some .int) { frames := 6, cells := 0, slots := 0, locals := 132 } cLay cN D cA A [.ref (A 0), .int a1] m (some (.int r)) m' := by
  refine met0_of (by decide) (Nat.le_of_ble_eq_true rfl) hI ?_
  intro p e s m0 below meth c ls X hinit hP hS hl
  generalize ([.ref (A 0), .int a1] : List Value).toArray = args at X ⊢
  have hl : lv_has ls 2 [(0, .ref (A 0)), (1, .int a1)] := hl
  have X : CX cLay cN D cA A p s m0 args meth c "BenchTowels" cX11_gather 2 (some .int) := X
  have hx := X.1
  have hb := X.2.1
  have hml := X.2.2.1
  have hown := X.2.2.2.1
  have hts := X.2.2.2.2.1
  have hF := X.2.2.2.2.2.2.2.2.1
  rewrite [fX11_gather] at h
  refine lv_aload_n hx hb dX11_gather_0 rfl (lv_at hl 0 rfl) ?_
  refine r_get kc_11 7 X hP (by decide) (L_bt _) (by decide) rfl wt_2_102 dX11_gather_1 ?_
  refine lv_iload_n hx hb dX11_gather_4 rfl (lv_at hl 1 rfl) ?_
  obtain ⟨r_1, m_2, hc_3, h⟩ := bd_some h
  refine c_V (rest := []) X hP hS (tX1_isOfSets hI (by decide) hc_3) (lt_g (by decide) (by decide)) (L_gym (by decide) _) rfl wt_4_38 wt_4_39 wt_4_40 wt_1_10 wt_4_41 ⟨rfl, hy_X1_isOfSets⟩ ⟨rfl, rfl⟩ ⟨Nat.le_of_ble_eq_true rfl, Nat.le_of_ble_eq_true rfl⟩ rfl hl.1 rfl (Nat.le_of_ble_eq_true rfl) dX11_gather_5 rfl (fun H locs hP hS => ?_)
  refine lv_if_eq (tgt := 22) hx hb dX11_gather_8 (by decide) (fun c_4 => ?_) (fun c_4 => ?_)
  · have h := ifp c_4 h
    refine lv_iconst (v := (-1)) hx hb dX11_gather_22 (by decide) ?_
    exact r_iret X hP hS dX11_gather_23 h
  · have h := ifn c_4 h
    refine lv_aload_n hx hb dX11_gather_11 rfl (lv_at hl 0 rfl) ?_
    refine r_get kc_11 7 X hP (by decide) (L_bt _) (by decide) rfl wt_2_102 dX11_gather_12 ?_
    refine lv_iload_n hx hb dX11_gather_15 rfl (lv_at hl 1 rfl) ?_
    obtain ⟨r_5, m_6, hc_7, h⟩ := bd_some h
    refine c_V (rest := []) X hP hS (tX1_gatherBy hI (by decide) hc_7) (lt_g (by decide) (by decide)) (L_gym (by decide) _) rfl wt_4_42 wt_4_43 wt_4_44 wt_1_10 wt_4_45 ⟨rfl, hy_X1_gatherBy⟩ ⟨rfl, rfl⟩ ⟨Nat.le_of_ble_eq_true rfl, Nat.le_of_ble_eq_true rfl⟩ rfl hl.1 rfl (Nat.le_of_ble_eq_true rfl) dX11_gather_16 rfl (fun H locs hP hS => ?_)
    refine lv_goto (tgt := 23) hx hb dX11_gather_19 (by decide) ?_
    exact r_iret X hP hS dX11_gather_23 h

def fX11_gathered (a1 : Int32) (a2 : Int32) (m : Mm) : Option (Int32 × Mm) := bd (fX1_isOfSets 0 a1 m) fun r_1 m_2 => (if r_1 = 0 then some ((-1), m_2) else bd (fX1_has 0 a2 m_2) fun r_5 m_6 => (if r_5 = 0 then some ((-1), m_6) else bd (fX1_gatherBy 0 a1 m_6) fun r_9 m_10 => (if r_9 < 0 then some ((-3), m_10) else (if ((a1 >>> (a2 &&& 31)) &&& 1) = 0 then some ((-3), m_10) else bd (fX1_firstRow 0 a1 r_9 a2 m_10) fun r_14 m_15 => some (r_14, m_15)))))
set_option maxHeartbeats 4000000 in
set_option maxRecDepth 100000 in
theorem tX11_gathered {l : Launch} {D : va_G} {cA : Nat → ClassId} {A : Nat → Nat} (hI : InjA cN A) {a1 : Int32} {a2 : Int32} {m m' : Mm} {r : Int32} (h : fX11_gathered a1 a2 m = some (r, m')) : Met0 l yX11_gathered cX11_gathered 4 (some .int) { frames := 6, cells := 0, slots := 0, locals := 134 } cLay cN D cA A [.ref (A 0), .int a1, .int a2] m (some (.int r)) m' := by
  refine met0_of (by decide) (Nat.le_of_ble_eq_true rfl) hI ?_
  intro p e s m0 below meth c ls X hinit hP hS hl
  generalize ([.ref (A 0), .int a1, .int a2] : List Value).toArray = args at X ⊢
  have hl : lv_has ls 4 [(0, .ref (A 0)), (1, .int a1), (2, .int a2)] := hl
  have X : CX cLay cN D cA A p s m0 args meth c "BenchTowels" cX11_gathered 4 (some .int) := X
  have hx := X.1
  have hb := X.2.1
  have hml := X.2.2.1
  have hown := X.2.2.2.1
  have hts := X.2.2.2.2.1
  have hF := X.2.2.2.2.2.2.2.2.1
  rewrite [fX11_gathered] at h
  refine lv_aload_n hx hb dX11_gathered_0 rfl (lv_at hl 0 rfl) ?_
  refine r_get kc_11 7 X hP (by decide) (L_bt _) (by decide) rfl wt_2_102 dX11_gathered_1 ?_
  refine lv_iload_n hx hb dX11_gathered_4 rfl (lv_at hl 1 rfl) ?_
  obtain ⟨r_1, m_2, hc_3, h⟩ := bd_some h
  refine c_V (rest := []) X hP hS (tX1_isOfSets hI (by decide) hc_3) (lt_g (by decide) (by decide)) (L_gym (by decide) _) rfl wt_4_38 wt_4_39 wt_4_40 wt_1_10 wt_4_41 ⟨rfl, hy_X1_isOfSets⟩ ⟨rfl, rfl⟩ ⟨Nat.le_of_ble_eq_true rfl, Nat.le_of_ble_eq_true rfl⟩ rfl hl.1 rfl (Nat.le_of_ble_eq_true rfl) dX11_gathered_5 rfl (fun H locs hP hS => ?_)
  refine lv_if_eq (tgt := 22) hx hb dX11_gathered_8 (by decide) (fun c_4 => ?_) (fun c_4 => ?_)
  · have h := ifp c_4 h
    refine lv_iconst (v := (-1)) hx hb dX11_gathered_22 (by decide) ?_
    exact r_iret X hP hS dX11_gathered_23 h
  · have h := ifn c_4 h
    refine lv_aload_n hx hb dX11_gathered_11 rfl (lv_at hl 0 rfl) ?_
    refine r_get kc_11 7 X hP (by decide) (L_bt _) (by decide) rfl wt_2_102 dX11_gathered_12 ?_
    refine lv_iload_n hx hb dX11_gathered_15 rfl (lv_at hl 2 rfl) ?_
    obtain ⟨r_5, m_6, hc_7, h⟩ := bd_some h
    refine c_V (rest := []) X hP hS (tX1_has hI (by decide) hc_7) (lt_g (by decide) (by decide)) (L_gym (by decide) _) rfl wt_2_160 wt_2_161 wt_2_162 wt_1_10 wt_2_163 ⟨rfl, hy_X1_has⟩ ⟨rfl, rfl⟩ ⟨Nat.le_of_ble_eq_true rfl, Nat.le_of_ble_eq_true rfl⟩ rfl hl.1 rfl (Nat.le_of_ble_eq_true rfl) dX11_gathered_16 rfl (fun H locs hP hS => ?_)
    refine lv_if_ne (tgt := 24) hx hb dX11_gathered_19 (by decide) (fun c_8 => ?_) (fun c_8 => ?_)
    · have h := ifn c_8 h
      refine lv_aload_n hx hb dX11_gathered_24 rfl (lv_at hl 0 rfl) ?_
      refine r_get kc_11 7 X hP (by decide) (L_bt _) (by decide) rfl wt_2_102 dX11_gathered_25 ?_
      refine lv_iload_n hx hb dX11_gathered_28 rfl (lv_at hl 1 rfl) ?_
      obtain ⟨r_9, m_10, hc_11, h⟩ := bd_some h
      refine c_V (rest := []) X hP hS (tX1_gatherBy hI (by decide) hc_11) (lt_g (by decide) (by decide)) (L_gym (by decide) _) rfl wt_4_42 wt_4_43 wt_4_44 wt_1_10 wt_4_45 ⟨rfl, hy_X1_gatherBy⟩ ⟨rfl, rfl⟩ ⟨Nat.le_of_ble_eq_true rfl, Nat.le_of_ble_eq_true rfl⟩ rfl hl.1 rfl (Nat.le_of_ble_eq_true rfl) dX11_gathered_29 rfl (fun H locs hP hS => ?_)
      refine lv_istore_n (lv' := [(3, .int r_9), (0, .ref (A 0)), (1, .int a1), (2, .int a2)]) hx hb dX11_gathered_32 rfl hl (by decide) rfl (fun ls hl => ?_)
      refine lv_iload_n hx hb dX11_gathered_33 rfl (lv_at hl 0 rfl) ?_
      refine lv_if_lt (tgt := 45) hx hb dX11_gathered_34 (by decide) (fun c_12 => ?_) (fun c_12 => ?_)
      · have h := ifp c_12 h
        refine lv_bipush (v := (-3)) hx hb dX11_gathered_45 (by decide) ?_
        exact r_iret X hP hS dX11_gathered_47 h
      · have h := ifn c_12 h
        refine lv_iload_n hx hb dX11_gathered_37 rfl (lv_at hl 2 rfl) ?_
        refine lv_iload_n hx hb dX11_gathered_38 rfl (lv_at hl 3 rfl) ?_
        refine lv_ishr hx hb dX11_gathered_39 ?_
        refine lv_iconst (v := 1) hx hb dX11_gathered_40 (by decide) ?_
        refine lv_iand hx hb dX11_gathered_41 ?_
        refine lv_if_ne (tgt := 48) hx hb dX11_gathered_42 (by decide) (fun c_13 => ?_) (fun c_13 => ?_)
        · have h := ifn c_13 h
          refine lv_aload_n hx hb dX11_gathered_48 rfl (lv_at hl 1 rfl) ?_
          refine r_get kc_11 7 X hP (by decide) (L_bt _) (by decide) rfl wt_2_102 dX11_gathered_49 ?_
          refine lv_iload_n hx hb dX11_gathered_52 rfl (lv_at hl 2 rfl) ?_
          refine lv_iload_n hx hb dX11_gathered_53 rfl (lv_at hl 0 rfl) ?_
          refine lv_iload_n hx hb dX11_gathered_54 rfl (lv_at hl 3 rfl) ?_
          obtain ⟨r_14, m_15, hc_16, h⟩ := bd_some h
          refine c_V (rest := []) X hP hS (tX1_firstRow hI (by decide) hc_16) (lt_g (by decide) (by decide)) (L_gym (by decide) _) rfl wt_4_68 wt_4_69 wt_4_70 wt_1_10 wt_4_71 ⟨rfl, hy_X1_firstRow⟩ ⟨rfl, rfl⟩ ⟨Nat.le_of_ble_eq_true rfl, Nat.le_of_ble_eq_true rfl⟩ rfl hl.1 rfl (Nat.le_of_ble_eq_true rfl) dX11_gathered_55 rfl (fun H locs hP hS => ?_)
          exact r_iret X hP hS dX11_gathered_58 h
        · have h := ifp c_13 h
          refine lv_bipush (v := (-3)) hx hb dX11_gathered_45 (by decide) ?_
          exact r_iret X hP hS dX11_gathered_47 h
    · have h := ifp c_8 h
      refine lv_iconst (v := (-1)) hx hb dX11_gathered_22 (by decide) ?_
      exact r_iret X hP hS dX11_gathered_23 h

def fX11_free_38  : Nat → Int32 → Int32 → Int32 → Int32 → Mm → Option (Int32 × Mm)
  | 0, _, _, _, _, _ => none
  | n + 1, x1, x2, x3, x4, m => (if (16 : Int32) < (x4 + x2) then some ((-3), m) else gx x1 6 ((if (((m (gp 0 9) (ix x1)) >>> (x4 &&& 31)) &&& x3) = 0 then some (x4, m) else lt ((x4 : Int32) + 1) fun x4_12 => (fX11_free_38 n x1 x2 x3 x4_12 m))))
set_option maxHeartbeats 4000000 in
set_option maxRecDepth 100000 in
theorem tX11_free_38 (hI : InjA cN A)  {r : Int32} {m' : Mm} (X : CX cLay cN D cA A p s m0 args meth c "BenchTowels" cX11_free 5 (some .int)) : ∀ (n : Nat) (x1 : Int32) (x2 : Int32) (x3 : Int32) (x4 : Int32) (m : Mm) (H : Heap) (locs : List Loc) (ls : Array Slot), fX11_free_38 n x1 x2 x3 x4 m = some (r, m') → va_P D vwCl (wsOf cLay cN cA A m) H → va_S (AW cN A) s.heap H locs → lv_has ls 5 [(0, .ref (A 0)), (1, .int x1), (2, .int x2), (3, .int x3), (4, .int x4)] → W p l e { frames := 0, cells := 0, slots := 0, locals := 0 } s m0 args below meth c H locs 0 0 (ZR below args s cLay cN D cA A (some (.int r)) m') (F0 m0 38 ls []) := by
  have hx := X.1
  have hb := X.2.1
  have hml := X.2.2.1
  have hown := X.2.2.2.1
  have hts := X.2.2.2.2.1
  have hF := X.2.2.2.2.2.2.2.2.1
  intro n
  induction n with
  | zero =>
    intro x1 x2 x3 x4 m H locs ls h hP hS hl
    exact absurd h (by rewrite [fX11_free_38]; exact fun q => by cases q)
  | succ n ih =>
    intro x1 x2 x3 x4 m H locs ls h hP hS hl
    rewrite [fX11_free_38] at h
    refine lv_iload hx hb dX11_free_38 (lv_at hl 4 rfl) ?_
    refine lv_iload_n hx hb dX11_free_40 rfl (lv_at hl 2 rfl) ?_
    refine lv_iadd hx hb dX11_free_41 ?_
    refine lv_bipush (v := 16) hx hb dX11_free_42 (by decide) ?_
    refine lv_icmp_gt (tgt := 75) hx hb dX11_free_44 (by decide) (fun c_9 => ?_) (fun c_9 => ?_)
    · have h := ifp c_9 h
      refine lv_bipush (v := (-3)) hx hb dX11_free_75 (by decide) ?_
      exact r_iret X hP hS dX11_free_77 h
    · have h := ifn c_9 h
      refine lv_aload_n hx hb dX11_free_47 rfl (lv_at hl 0 rfl) ?_
      refine r_get kc_11 7 X hP (by decide) (L_bt _) (by decide) rfl wt_2_102 dX11_free_48 ?_
      refine r_get kc_1 4 X hP (lt_g (by decide) (by decide)) (L_gym (by decide) _) (by decide) rfl wt_1_179 dX11_free_51 ?_
      refine lv_iconst (v := 1) hx hb dX11_free_54 (by decide) ?_
      refine r_row (q' := (gp 0 9)) X hP (lt_g (by decide) (by decide)) ((Lq_g_7 (by decide)) _) (vpc (by decide)) ixc_1 (by decide) rfl dX11_free_55 ?_
      refine lv_iload_n hx hb dX11_free_56 rfl (lv_at hl 1 rfl) ?_
      obtain ⟨hin_10, h⟩ := gx_some h
      refine r_iald X hP (lt_g8 (j := 1) (by decide) (by decide)) ((La_g_mrow (j := 1) (by decide) (by decide)) _) hin_10 rfl dX11_free_57 ?_
      refine lv_iload hx hb dX11_free_58 (lv_at hl 4 rfl) ?_
      refine lv_ishr hx hb dX11_free_60 ?_
      refine lv_iload_n hx hb dX11_free_61 rfl (lv_at hl 3 rfl) ?_
      refine lv_iand hx hb dX11_free_62 ?_
      refine lv_if_ne (tgt := 69) hx hb dX11_free_63 (by decide) (fun c_11 => ?_) (fun c_11 => ?_)
      · have h := ifn c_11 h
        obtain ⟨x4_12, ex_13, h⟩ := lt_some h
        refine lv_iinc (v := x4_12) (lv' := [(4, .int x4_12), (0, .ref (A 0)), (1, .int x1), (2, .int x2), (3, .int x3)]) hx hb dX11_free_69 hl (k := 4) rfl (by rw [ex_13]; rfl) (by decide) rfl (fun ls hl => ?_)
        refine lv_goto (tgt := 38) hx hb dX11_free_72 (by decide) ?_
        exact ih x1 x2 x3 x4_12 m _ _ _  h hP hS (lv_sub hl [1, 2, 3, 4, 0] rfl)
      · have h := ifp c_11 h
        refine lv_iload hx hb dX11_free_66 (lv_at hl 4 rfl) ?_
        exact r_iret X hP hS dX11_free_68 h

def fX11_free (a1 : Int32) (a2 : Int32) (m : Mm) : Option (Int32 × Mm) := (if a1 < 0 then some ((-1), m) else (if (6 : Int32) ≤ a1 then some ((-1), m) else (if a2 < 1 then some ((-1), m) else (if a2 ≤ 16 then lt (((1 : Int32) <<< (a2 &&& 31)) - 1) fun x3_5 => lt (m (gp 0 0) 6) fun x4_7 => (fX11_free_38  FL a1 a2 x3_5 x4_7 m) else some ((-1), m)))))
set_option maxHeartbeats 4000000 in
set_option maxRecDepth 100000 in
theorem tX11_free {l : Launch} {D : va_G} {cA : Nat → ClassId} {A : Nat → Nat} (hI : InjA cN A) {a1 : Int32} {a2 : Int32} {m m' : Mm} {r : Int32} (h : fX11_free a1 a2 m = some (r, m')) : Met0 l yX11_free cX11_free 5 (some .int) { frames := 0, cells := 0, slots := 0, locals := 0 } cLay cN D cA A [.ref (A 0), .int a1, .int a2] m (some (.int r)) m' := by
  refine met0_of (by decide) (Nat.le_of_ble_eq_true rfl) hI ?_
  intro p e s m0 below meth c ls X hinit hP hS hl
  generalize ([.ref (A 0), .int a1, .int a2] : List Value).toArray = args at X ⊢
  have hl : lv_has ls 5 [(0, .ref (A 0)), (1, .int a1), (2, .int a2)] := hl
  have X : CX cLay cN D cA A p s m0 args meth c "BenchTowels" cX11_free 5 (some .int) := X
  have hx := X.1
  have hb := X.2.1
  have hml := X.2.2.1
  have hown := X.2.2.2.1
  have hts := X.2.2.2.2.1
  have hF := X.2.2.2.2.2.2.2.2.1
  rewrite [fX11_free] at h
  refine lv_iload_n hx hb dX11_free_0 rfl (lv_at hl 1 rfl) ?_
  refine lv_if_lt (tgt := 21) hx hb dX11_free_1 (by decide) (fun c_1 => ?_) (fun c_1 => ?_)
  · have h := ifp c_1 h
    refine lv_iconst (v := (-1)) hx hb dX11_free_21 (by decide) ?_
    exact r_iret X hP hS dX11_free_22 h
  · have h := ifn c_1 h
    refine lv_iload_n hx hb dX11_free_4 rfl (lv_at hl 1 rfl) ?_
    refine lv_bipush (v := 6) hx hb dX11_free_5 (by decide) ?_
    refine lv_icmp_ge (tgt := 21) hx hb dX11_free_7 (by decide) (fun c_2 => ?_) (fun c_2 => ?_)
    · have h := ifp c_2 h
      refine lv_iconst (v := (-1)) hx hb dX11_free_21 (by decide) ?_
      exact r_iret X hP hS dX11_free_22 h
    · have h := ifn c_2 h
      refine lv_iload_n hx hb dX11_free_10 rfl (lv_at hl 2 rfl) ?_
      refine lv_iconst (v := 1) hx hb dX11_free_11 (by decide) ?_
      refine lv_icmp_lt (tgt := 21) hx hb dX11_free_12 (by decide) (fun c_3 => ?_) (fun c_3 => ?_)
      · have h := ifp c_3 h
        refine lv_iconst (v := (-1)) hx hb dX11_free_21 (by decide) ?_
        exact r_iret X hP hS dX11_free_22 h
      · have h := ifn c_3 h
        refine lv_iload_n hx hb dX11_free_15 rfl (lv_at hl 2 rfl) ?_
        refine lv_bipush (v := 16) hx hb dX11_free_16 (by decide) ?_
        refine lv_icmp_le (tgt := 23) hx hb dX11_free_18 (by decide) (fun c_4 => ?_) (fun c_4 => ?_)
        · have h := ifp c_4 h
          refine lv_iconst (v := 1) hx hb dX11_free_23 (by decide) ?_
          refine lv_iload_n hx hb dX11_free_24 rfl (lv_at hl 2 rfl) ?_
          refine lv_ishl hx hb dX11_free_25 ?_
          refine lv_iconst (v := 1) hx hb dX11_free_26 (by decide) ?_
          refine lv_isub hx hb dX11_free_27 ?_
          obtain ⟨x3_5, ex_6, h⟩ := lt_some h
          refine lv_ren ex_6 ?_
          refine lv_istore_n (lv' := [(3, .int x3_5), (0, .ref (A 0)), (1, .int a1), (2, .int a2)]) hx hb dX11_free_28 rfl hl (by decide) rfl (fun ls hl => ?_)
          refine lv_aload_n hx hb dX11_free_29 rfl (lv_at hl 1 rfl) ?_
          refine r_get kc_11 7 X hP (by decide) (L_bt _) (by decide) rfl wt_2_102 dX11_free_30 ?_
          refine r_get kc_1 6 X hP (lt_g (by decide) (by decide)) (L_gym (by decide) _) (by decide) rfl wt_1_183 dX11_free_33 ?_
          obtain ⟨x4_7, ex_8, h⟩ := lt_some h
          refine lv_ren ex_8 ?_
          refine lv_istore (lv' := [(4, .int x4_7), (3, .int x3_5), (0, .ref (A 0)), (1, .int a1), (2, .int a2)]) hx hb dX11_free_36 hl (by decide) rfl (fun ls hl => ?_)
          exact tX11_free_38 hI    X FL a1 a2 x3_5 x4_7 m _ _ _  h hP hS (lv_sub hl [2, 3, 4, 1, 0] rfl)
        · have h := ifn c_4 h
          refine lv_iconst (v := (-1)) hx hb dX11_free_21 (by decide) ?_
          exact r_iret X hP hS dX11_free_22 h

end
