/-! String.charAt of the words, down to the JDK's own methods -/
def sChar (j : Nat) : Int32 := sWords.getD j 0
theorem sChar_ok : ∀ j, j < 144 → ((sChar j &&& 255).toUInt32 % 65536).toInt32 = sChar j ∧ narrow .char (.int (sChar j)) = .int (sChar j) := by decide +kernel
section RW4
variable {p : Program} {l : Launch} {e : Env} {R : Room} {s : State} {m0 : MethodId} {args : Array Value} {below : List Frame} {meth : Method} {c : Code} {H : Heap} {locs : List Loc} {Q : State → Prop}
variable {lay : Lay} {N : Nat} {D : va_G} {cA : Nat → ClassId} {A : Nat → Nat} {m m1 : Mm} {own : String} {cc : ByteArray} {nL : Nat} {ret : Option FieldType} {pc : Nat} {ls : Array Slot} {rest : List Value}
theorem r_nret {ty : FieldType} {v r : Int32} {m' : Mm} (X : CX lay N D cA A p s m0 args meth c own cc nL (some ty)) (hv : narrow ty (.int v) = .int v) (hP : va_P D vwCl (wsOf lay N cA A m) H) (hS : va_S (AW N A) s.heap H locs) (hd : decode cc pc = .ok (.ireturn, 1)) (h : some (v, m) = some (r, m')) : W p l e R s m0 args below meth c H locs 0 0 (ZR below args s lay N D cA A (some (.int r)) m') (F0 m0 pc ls [.int v]) := by
  cases h
  exact W.zret (v := v) X.1 X.2.1 X.2.2.2.2.2.1 hv (fun t ht hW => ⟨rfl, cx_end X hP hS ht hW⟩) hS.2.2 hd X.2.2.2.2.2.2.1
/-- a call of an instance method on a receiver that stands outside the world -/
theorem c_VR {idx n b pc' : Nat} {y : MethodName} {cc' : ByteArray} {nL' : Nat} {ret' : Option FieldType} {rm : Room} {As st0 : List Value} {C : String} {v : Option Value}
    (X : CX lay N D cA A p s m0 args meth c own cc nL ret) (hP : va_P D vwCl (wsOf lay N cA A m) H) (hS : va_S (AW N A) s.heap H locs) (hM : Met0 l y cc' nL' ret' rm lay N D cA A (.ref b :: As) m v m1) (hrc : ∃ cell : Cell, H[b]? = some cell ∧ cell.vm.isStatics = false ∧ s.vm.findClass C = some cell.cls)
    (w1 : Cond.methodLink own idx y ∈ WL) (w2 : Cond.instanceMethod y ∈ WL) (w3 : Cond.selects C y y ∈ WL) (w4 : Cond.initialized C ∈ WL) (w5 : Cond.code y cc' nL' ret' ∈ WL)
    (hy : y.cls = C ∧ y.cls ≠ "java/lang/invoke/MethodHandle" ∧ y.cls ≠ "java/lang/invoke/VarHandle" ∧ (parseMethodDescriptor y.desc).map (fun d => d.parameters.length) = some n) (hrm : rm.cells = 0 ∧ rm.slots = 0) (hR : rm.frames + 1 ≤ R.frames ∧ 8 + (nL' + 11) + rm.locals ≤ R.locals)
    (hn : As.length = n) (hs : ls.size = nL) (hst : st0 = As.reverse ++ .ref b :: rest) (hW : (rest.map fun v => v.category).sum ≤ 8) (hdg : decode cc pc = .ok (.invokevirtual idx, 3)) (hpc : pc + 3 = pc')
    (kk : ∀ (H1 : Heap) (locs1 : List Loc), va_P D vwCl (wsOf lay N cA A m1) H1 → va_S (AW N A) s.heap H1 locs1 → W p l e R s m0 args below meth c H1 locs1 0 0 Q (F0 m0 pc' ls (v.toList ++ rest))) : W p l e R s m0 args below meth c H locs 0 0 Q (F0 m0 pc ls st0) := by
  have hG : GoodIn WL (wsV own idx C y (Cond.code y cc' nL' ret' :: WL)) := good_c (fun w h => by
    rcases List.mem_cons.mp h with rfl | h
    · exact w1
    rcases List.mem_cons.mp h with rfl | h
    · exact w2
    rcases List.mem_cons.mp h with rfl | h
    · exact w3
    rcases List.mem_cons.mp h with rfl | h
    · exact w4
    · cases h) w5
  exact r_after X hS (va_runV (As := As) (rest := rest) (cx_fix X) hM (cwV n X.2.2.2.2.1 hG rfl hrm.1 hrm.2 hy hR) ⟨Pic.blind, hrc, cx_pre X hP hS⟩ rfl hn hs hst (lv_room (st := rest) hW) hdg ⟨Nat.zero_le _, Nat.zero_le _⟩) hpc kk
end RW4
section STR
variable {l : Launch} {lay : Lay} {N : Nat} {D : va_G} {cA : Nat → ClassId} {A : Nat → Nat} {m : Mm}
set_option maxHeartbeats 4000000 in
set_option maxRecDepth 100000 in
theorem t_pre_checkIndex (hI : InjA N A) {i n : Int32} {v : Value} (hv : v.category = 1) (h0 : ¬ i < 0) (h1 : i < n) : Met0 l yJ3_checkIndex_8e157 cJ3_checkIndex_8e157 3 (some .int) { frames := 0, cells := 0, slots := 0, locals := 0 } lay N D cA A [.int i, .int n, v] m (some (.int i)) m := by
  have hsl : (lg_sl [Value.int i, Value.int n, v]).length ≤ 3 := by
    cases v <;> first | exact Nat.le_of_ble_eq_true rfl | (simp [Value.category] at hv)
  refine met0_of (by decide) hsl hI ?_
  intro p e s m0 below meth c ls X hinit hP hS hl
  generalize ([.int i, .int n, v] : List Value).toArray = args at X ⊢
  have hl : lv_has ls 3 [(0, .int i), (1, .int n)] := lv_sub hl [0, 1] rfl
  have hx := X.1
  have hb := X.2.1
  refine lv_iload_n hx hb dJ3_checkIndex_8e157_0 rfl (lv_at hl 0 rfl) ?_
  refine lv_if_lt (tgt := 9) hx hb dJ3_checkIndex_8e157_1 (by decide) (fun c1 => absurd c1 h0) (fun c1 => ?_)
  refine lv_iload_n hx hb dJ3_checkIndex_8e157_4 rfl (lv_at hl 0 rfl) ?_
  refine lv_iload_n hx hb dJ3_checkIndex_8e157_5 rfl (lv_at hl 1 rfl) ?_
  refine lv_icmp_lt (tgt := 16) hx hb dJ3_checkIndex_8e157_6 (by decide) (fun c2 => ?_) (fun c2 => absurd h1 c2)
  refine lv_iload_n hx hb dJ3_checkIndex_8e157_16 rfl (lv_at hl 0 rfl) ?_
  exact r_iret X hP hS dJ3_checkIndex_8e157_17 rfl
set_option maxHeartbeats 4000000 in
set_option maxRecDepth 100000 in
theorem t_str_checkIndex (hI : InjA N A) {i n : Int32} (h0 : ¬ i < 0) (h1 : i < n) : Met0 l yJ0_checkIndex_df160 cJ0_checkIndex_df160 2 none { frames := 1, cells := 0, slots := 0, locals := 22 } lay N D cA A [.int i, .int n] m none m := by
  refine met0_of (by decide) (Nat.le_of_ble_eq_true rfl) hI ?_
  intro p e s m0 below meth c ls X hinit hP hS hl
  generalize ([.int i, .int n] : List Value).toArray = args at X ⊢
  have hl : lv_has ls 2 [(0, .int i), (1, .int n)] := hl
  have X : CX lay N D cA A p s m0 args meth c "java/lang/String" cJ0_checkIndex_df160 2 none := X
  have hx := X.1
  have hb := X.2.1
  have hown := X.2.2.2.1
  have hts := X.2.2.2.2.1
  have hF := X.2.2.2.2.2.2.2.2.1
  refine lv_iload_n hx hb dJ0_checkIndex_df160_0 rfl (lv_at hl 0 rfl) ?_
  refine lv_iload_n hx hb dJ0_checkIndex_df160_1 rfl (lv_at hl 1 rfl) ?_
  rcases hF.2.2.2.2.2.2.2 with hz | ⟨t, hz⟩
  · refine va_gets hx hb hz hS hown (hts _ wt_3_136) (fun _ q => q) dJ0_checkIndex_df160_2 ?_
    refine c_S (rest := []) X hP hS (t_pre_checkIndex hI rfl h0 h1) wt_3_138 wt_3_139 wt_1_16 wt_3_140 (by decide +kernel) ⟨rfl, rfl⟩ ⟨Nat.le_of_ble_eq_true rfl, Nat.le_of_ble_eq_true rfl⟩ (n := 3) rfl hl.1 rfl (Nat.le_of_ble_eq_true rfl) dJ0_checkIndex_df160_5 rfl (fun H locs hP hS => ?_)
    refine lv_pop hx hb dJ0_checkIndex_df160_8 rfl ?_
    exact r_vret (r := 0) X hP hS dJ0_checkIndex_df160_9 rfl
  · refine va_gets hx hb hz hS hown (hts _ wt_3_136) (fun _ q => q) dJ0_checkIndex_df160_2 ?_
    refine c_S (rest := []) X hP hS (t_pre_checkIndex hI rfl h0 h1) wt_3_138 wt_3_139 wt_1_16 wt_3_140 (by decide +kernel) ⟨rfl, rfl⟩ ⟨Nat.le_of_ble_eq_true rfl, Nat.le_of_ble_eq_true rfl⟩ (n := 3) rfl hl.1 rfl (Nat.le_of_ble_eq_true rfl) dJ0_checkIndex_df160_5 rfl (fun H locs hP hS => ?_)
    refine lv_pop hx hb dJ0_checkIndex_df160_8 rfl ?_
    exact r_vret (r := 0) X hP hS dJ0_checkIndex_df160_9 rfl
theorem vp_lt144 {i : Int32} (h : vp_in i 144) : ¬ i < 0 ∧ i < 144 := by
  obtain ⟨j, hj, rfl⟩ := vp_in_of h (by decide)
  exact ⟨nI_pos (by omega), nI_lt (b := 144) hj (by decide)⟩
set_option maxHeartbeats 4000000 in
set_option maxRecDepth 100000 in
theorem t_lat_charAt (hI : InjA N A) {i : Int32} (hin : vp_in i 144) : Met0 l yJ1_charAt_3b067 cJ1_charAt_3b067 2 (some .char) { frames := 2, cells := 0, slots := 0, locals := 43 } lay N D cA A [.ref (A 1005), .int i] m (some (.int (sChar (ix i)))) m := by
  refine met0_of (by decide) (Nat.le_of_ble_eq_true rfl) hI ?_
  intro p e s m0 below meth c ls X hinit hP hS hl
  generalize ([.ref (A 1005), .int i] : List Value).toArray = args at X ⊢
  have hl : lv_has ls 2 [(0, .ref (A 1005)), (1, .int i)] := hl
  have X : CX lay N D cA A p s m0 args meth c "java/lang/StringLatin1" cJ1_charAt_3b067 2 (some .char) := X
  have hx := X.1
  have hb := X.2.1
  have hF := X.2.2.2.2.2.2.2.2.1
  have hT : va_T .byte (A 1005) 144 (fun j => .int (sChar j)) (AW N A) s s.heap := (hF.2.2.2.2.2.1.2.1 0 (by decide)).2.2.2
  refine lv_iload_n hx hb dJ1_charAt_3b067_0 rfl (lv_at hl 1 rfl) ?_
  refine lv_aload_n hx hb dJ1_charAt_3b067_1 rfl (lv_at hl 0 rfl) ?_
  refine va_tlen (v := 144) hx hb hT hS rfl dJ1_charAt_3b067_2 ?_
  refine c_S (rest := []) X hP hS (t_str_checkIndex hI (vp_lt144 hin).1 (vp_lt144 hin).2) wt_3_133 wt_3_134 wt_1_14 wt_3_135 (by decide +kernel) ⟨rfl, rfl⟩ ⟨Nat.le_of_ble_eq_true rfl, Nat.le_of_ble_eq_true rfl⟩ (n := 2) rfl hl.1 rfl (Nat.le_of_ble_eq_true rfl) dJ1_charAt_3b067_3 rfl (fun H locs hP hS => ?_)
  refine lv_aload_n hx hb dJ1_charAt_3b067_6 rfl (lv_at hl 0 rfl) ?_
  refine lv_iload_n hx hb dJ1_charAt_3b067_7 rfl (lv_at hl 1 rfl) ?_
  refine va_tb (v := .int (sChar (ix i))) hx hb hT hS hin rfl dJ1_charAt_3b067_8 ?_
  refine lv_sipush (v := 255) hx hb dJ1_charAt_3b067_9 (by decide) ?_
  refine lv_iand hx hb dJ1_charAt_3b067_12 ?_
  refine lv_i2c (v := sChar (ix i)) hx hb dJ1_charAt_3b067_13 (sChar_ok _ (vp_lt hin)).1 ?_
  exact r_nret X (sChar_ok _ (vp_lt hin)).2 hP hS dJ1_charAt_3b067_14 rfl
set_option maxHeartbeats 4000000 in
set_option maxRecDepth 100000 in
theorem t_str_isLatin1 (hI : InjA N A) : Met0 l yJ0_isLatin1_aae02 cJ0_isLatin1_aae02 1 (some .boolean) { frames := 0, cells := 0, slots := 0, locals := 0 } lay N D cA A [.ref (A 1004)] m (some (.int 1)) m := by
  refine met0_of (by decide) (Nat.le_of_ble_eq_true rfl) hI ?_
  intro p e s m0 below meth c ls X hinit hP hS hl
  generalize ([.ref (A 1004)] : List Value).toArray = args at X ⊢
  have hl : lv_has ls 1 [(0, .ref (A 1004))] := hl
  have X : CX lay N D cA A p s m0 args meth c "java/lang/String" cJ0_isLatin1_aae02 1 (some .boolean) := X
  have hx := X.1
  have hb := X.2.1
  have hown := X.2.2.2.1
  have hts := X.2.2.2.2.1
  have hF := X.2.2.2.2.2.2.2.2.1
  have hO := hF.2.2.2.2.2.1.2.1 0 (by decide)
  refine va_gets hx hb hF.2.2.2.2.2.2.1 hS hown (hts _ wt_3_128) (fun _ q => q) dJ0_isLatin1_aae02_0 ?_
  refine lv_if_eq (tgt := 17) hx hb dJ0_isLatin1_aae02_3 (by decide) (fun c1 => absurd c1 (by decide)) (fun c1 => ?_)
  refine lv_aload_n hx hb dJ0_isLatin1_aae02_6 rfl (lv_at hl 0 rfl) ?_
  refine vk_getf hx hb hO.2.1 hS hown (hts _ wt_8_77) (fun _ q => q) dJ0_isLatin1_aae02_7 ?_
  refine lv_if_ne (tgt := 17) hx hb dJ0_isLatin1_aae02_10 (by decide) (fun c1 => absurd rfl c1) (fun c1 => ?_)
  refine lv_iconst (v := 1) hx hb dJ0_isLatin1_aae02_13 (by decide) ?_
  refine lv_goto (tgt := 18) hx hb dJ0_isLatin1_aae02_14 (by decide) ?_
  exact r_zret X (Or.inr rfl) hP hS dJ0_isLatin1_aae02_18 rfl
set_option maxHeartbeats 4000000 in
set_option maxRecDepth 100000 in
theorem t_str_charAt (hI : InjA N A) {i : Int32} (hin : vp_in i 144) : Met0 l yJ0_charAt_5068e cJ0_charAt_5068e 2 (some .char) { frames := 3, cells := 0, slots := 0, locals := 64 } lay N D cA A [.ref (A 1004), .int i] m (some (.int (sChar (ix i)))) m := by
  refine met0_of (by decide) (Nat.le_of_ble_eq_true rfl) hI ?_
  intro p e s m0 below meth c ls X hinit hP hS hl
  generalize ([.ref (A 1004), .int i] : List Value).toArray = args at X ⊢
  have hl : lv_has ls 2 [(0, .ref (A 1004)), (1, .int i)] := hl
  have X : CX lay N D cA A p s m0 args meth c "java/lang/String" cJ0_charAt_5068e 2 (some .char) := X
  have hx := X.1
  have hb := X.2.1
  have hown := X.2.2.2.1
  have hts := X.2.2.2.2.1
  have hF := X.2.2.2.2.2.2.2.2.1
  have hE := hF.2.2.2.2.2.1.2
  have hO := hE.1 0 (by decide)
  refine lv_aload_n hx hb dJ0_charAt_5068e_0 rfl (lv_at hl 0 rfl) ?_
  refine c_VR (rest := []) X hP hS (t_str_isLatin1 hI) (vk_recv (i := 0) hE (by decide) hS) wt_3_124 wt_3_125 wt_3_126 wt_1_14 wt_3_127 (by decide +kernel) ⟨rfl, rfl⟩ ⟨Nat.le_of_ble_eq_true rfl, Nat.le_of_ble_eq_true rfl⟩ (n := 0) rfl hl.1 rfl (Nat.le_of_ble_eq_true rfl) dJ0_charAt_5068e_1 rfl (fun H locs hP hS => ?_)
  refine lv_if_eq (tgt := 16) hx hb dJ0_charAt_5068e_4 (by decide) (fun c1 => absurd c1 (by decide)) (fun c1 => ?_)
  refine lv_aload_n hx hb dJ0_charAt_5068e_7 rfl (lv_at hl 0 rfl) ?_
  refine vk_getf hx hb hO.2.2.1 hS hown (hts _ wt_8_78) (fun _ q => q) dJ0_charAt_5068e_8 ?_
  refine lv_iload_n hx hb dJ0_charAt_5068e_11 rfl (lv_at hl 1 rfl) ?_
  refine c_S (rest := []) X hP hS (t_lat_charAt hI hin) wt_3_130 wt_3_131 wt_1_15 wt_3_132 (by decide +kernel) ⟨rfl, rfl⟩ ⟨Nat.le_of_ble_eq_true rfl, Nat.le_of_ble_eq_true rfl⟩ (n := 2) rfl hl.1 rfl (Nat.le_of_ble_eq_true rfl) dJ0_charAt_5068e_12 rfl (fun H locs hP hS => ?_)
  exact r_nret X (sChar_ok _ (vp_lt hin)).2 hP hS dJ0_charAt_5068e_15 rfl
end STR
section RW5
variable {p : Program} {l : Launch} {e : Env} {R : Room} {s : State} {m0 : MethodId} {args : Array Value} {below : List Frame} {meth : Method} {c : Code} {H : Heap} {locs : List Loc} {Q : State → Prop}
variable {lay : Lay} {N : Nat} {D : va_G} {cA : Nat → ClassId} {A : Nat → Nat} {m m1 : Mm} {own : String} {cc : ByteArray} {nL : Nat} {ret : Option FieldType} {pc : Nat} {ls : Array Slot} {rest : List Value}
theorem r_charAt {idx : Nat} {i : Int32} (X : CX lay N D cA A p s m0 args meth c own cc nL ret) (hP : va_P D vwCl (wsOf lay N cA A m) H) (hS : va_S (AW N A) s.heap H locs) (hI : InjA N A) (hin : vp_in i 144) (w1 : Cond.methodLink own idx yJ0_charAt_5068e ∈ WL) (hR : 7 + 1 ≤ R.frames ∧ 8 + (2 + 11) + 130 ≤ R.locals) (hs : ls.size = nL) (hW : (rest.map fun v => v.category).sum ≤ 8) (hdg : decode cc pc = .ok (.invokevirtual idx, 3))
    (kk : ∀ (H1 : Heap) (locs1 : List Loc), va_P D vwCl (wsOf lay N cA A m) H1 → va_S (AW N A) s.heap H1 locs1 → W p l e R s m0 args below meth c H1 locs1 0 0 Q (F0 m0 (pc + 3) ls (.int (sChar (ix i)) :: rest))) : W p l e R s m0 args below meth c H locs 0 0 Q (F0 m0 pc ls (.int i :: .ref (A 1004) :: rest)) := by
  have hE := X.2.2.2.2.2.2.2.2.1.2.2.2.2.2.1.2
  exact c_VR (rest := rest) X hP hS (t_str_charAt hI hin) (vk_recv (i := 0) hE (by decide) hS) w1 wt_3_121 wt_3_122 wt_1_14 wt_3_123 (by decide +kernel) ⟨rfl, rfl⟩ ⟨Nat.le_trans (Nat.le_of_ble_eq_true rfl) hR.1, Nat.le_trans (Nat.le_of_ble_eq_true rfl) hR.2⟩ (n := 1) rfl hs rfl hW hdg rfl kk
end RW5
