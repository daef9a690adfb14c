-- the constructors walked, by program (wip/whole/gen/gen84.py)
def eX1_init (cA : Nat → ClassId) (h0 a1 a2 : Nat) : Nat → va_E := fun k => ([.inr (1, [.ref a1, .ref a2, .ref (h0 + 1), .int 0, .ref (h0 + 7), .ref (h0 + 10), .int 0, .int 12, .int 0, .int 1, .int (-3), .ref (h0 + 11), .ref (h0 + 12)]),
  arQ (cA 2) 5 (fun j => if j < 5 then some (h0 + 1 + 1 + j) else none),
  arI cA 6 (fun _ => 0),
  arI cA 6 (fun _ => 0),
  arI cA 6 (fun _ => 0),
  arI cA 6 (fun _ => 0),
  arI cA 6 (fun _ => 0),
  arQ (cA 2) 2 (fun j => if j < 2 then some (h0 + 7 + 1 + j) else none),
  arI cA 6 (fun _ => 0),
  arI cA 6 (fun _ => 0),
  arI cA 3 (fun _ => 0),
  arI cA 5 (fun _ => 0),
  arI cA 6 (fun _ => 0)] : List va_E).getD k (.inr (6, []))
set_option maxHeartbeats 4000000 in
set_option maxRecDepth 100000 in
theorem kX1_init (l : Launch) (D : va_G) (cA : Nat → ClassId) (h0 : Nat) (a1 a2 : Nat) : Ctor l yX1_init cX1_init 3 { frames := 1, cells := 12, slots := 63, locals := 12 } D cA h0 [.ref a1, .ref a2] (.inr (1, fs0 13 tyX1)) 13 (eX1_init cA h0 a1 a2) 12 63 := by
  refine ctor_of (by decide) rfl (Nat.le_of_ble_eq_true rfl) ?_
  intro p e s m0 below meth c ls X hi hr hlk hS hl
  generalize ([.ref h0, .ref a1, .ref a2] : List Value).toArray = args at X ⊢
  have hl : lv_has ls 3 [(0, .ref h0), (1, .ref a1), (2, .ref a2)] := hl
  have X : CK D cA p s m0 args meth c "BenchTowels$Gym" cX1_init 3 := X
  have hx := X.1
  have hb := X.2.1
  refine lv_aload_n hx hb dX1_init_0 rfl (lv_at hl 0 rfl) ?_
  refine k_obj X wt_1_168 hl.1 dX1_init_1 (Nat.le_of_ble_eq_true rfl) (Nat.le_of_ble_eq_true rfl) ?_
  refine lv_aload_n hx hb dX1_init_4 rfl (lv_at hl 0 rfl) ?_
  refine lv_iconst (v := 5) hx hb dX1_init_5 (by decide) ?_
  refine lv_bipush (v := 6) hx hb dX1_init_6 (by decide) ?_
  refine k_mna (N := 5) (K := 6) (n' := 7) (cells' := 6) (slots' := 35) X hS wt_1_169 wt_1_77 (by decide) (by decide) (Nat.le_of_ble_eq_true rfl) (Nat.le_of_ble_eq_true rfl) rfl rfl rfl (Nat.le_of_ble_eq_true rfl) (Nat.le_of_ble_eq_true rfl) dX1_init_8 (fun H locs hS => ?_)
  refine k_put (ty := (.array (.array .int))) kc_1 2 0 X hi hS (Nat.le_of_ble_eq_true rfl) rfl (Nat.le_of_ble_eq_true rfl) wt_1_172 rfl (by decide +kernel) rfl rfl (Nat.le_of_ble_eq_true rfl) dX1_init_12 (fun H locs hS => ?_)
  refine lv_aload_n hx hb dX1_init_15 rfl (lv_at hl 0 rfl) ?_
  refine lv_iconst (v := 2) hx hb dX1_init_16 (by decide) ?_
  refine lv_bipush (v := 6) hx hb dX1_init_17 (by decide) ?_
  refine k_mna (N := 2) (K := 6) (n' := 10) (cells' := 9) (slots' := 49) X hS wt_1_169 wt_1_77 (by decide) (by decide) (Nat.le_of_ble_eq_true rfl) (Nat.le_of_ble_eq_true rfl) rfl rfl rfl (Nat.le_of_ble_eq_true rfl) (Nat.le_of_ble_eq_true rfl) dX1_init_19 (fun H locs hS => ?_)
  refine k_put (ty := (.array (.array .int))) kc_1 4 0 X hi hS (Nat.le_of_ble_eq_true rfl) rfl (Nat.le_of_ble_eq_true rfl) wt_1_178 rfl (by decide +kernel) rfl rfl (Nat.le_of_ble_eq_true rfl) dX1_init_23 (fun H locs hS => ?_)
  refine lv_aload_n hx hb dX1_init_26 rfl (lv_at hl 0 rfl) ?_
  refine lv_iconst (v := 3) hx hb dX1_init_27 (by decide) ?_
  refine k_newi (N := 3) (cells' := 10) (slots' := 52) X hS wt_1_77 (by decide) (by decide) (Nat.le_of_ble_eq_true rfl) rfl rfl (Nat.le_of_ble_eq_true rfl) (Nat.le_of_ble_eq_true rfl) dX1_init_28 (fun H hS => ?_)
  refine k_put (ty := (.array .int)) kc_1 5 0 X hi hS (Nat.le_of_ble_eq_true rfl) rfl (Nat.le_of_ble_eq_true rfl) wt_1_180 rfl (by decide +kernel) rfl rfl (Nat.le_of_ble_eq_true rfl) dX1_init_30 (fun H locs hS => ?_)
  refine lv_aload_n hx hb dX1_init_33 rfl (lv_at hl 0 rfl) ?_
  refine lv_bipush (v := 12) hx hb dX1_init_34 (by decide) ?_
  refine k_put (ty := .int) kc_1 7 0 X hi hS (Nat.le_of_ble_eq_true rfl) rfl (Nat.le_of_ble_eq_true rfl) wt_1_185 rfl (by decide +kernel) rfl rfl (Nat.le_of_ble_eq_true rfl) dX1_init_36 (fun H locs hS => ?_)
  refine lv_aload_n hx hb dX1_init_39 rfl (lv_at hl 0 rfl) ?_
  refine lv_iconst (v := 1) hx hb dX1_init_40 (by decide) ?_
  refine k_put (ty := .int) kc_1 9 0 X hi hS (Nat.le_of_ble_eq_true rfl) rfl (Nat.le_of_ble_eq_true rfl) wt_1_190 rfl (by decide +kernel) rfl rfl (Nat.le_of_ble_eq_true rfl) dX1_init_41 (fun H locs hS => ?_)
  refine lv_aload_n hx hb dX1_init_44 rfl (lv_at hl 0 rfl) ?_
  refine lv_bipush (v := (-3)) hx hb dX1_init_45 (by decide) ?_
  refine k_put (ty := .int) kc_1 10 0 X hi hS (Nat.le_of_ble_eq_true rfl) rfl (Nat.le_of_ble_eq_true rfl) wt_1_192 rfl (by decide +kernel) rfl rfl (Nat.le_of_ble_eq_true rfl) dX1_init_47 (fun H locs hS => ?_)
  refine lv_aload_n hx hb dX1_init_50 rfl (lv_at hl 0 rfl) ?_
  refine lv_iconst (v := 5) hx hb dX1_init_51 (by decide) ?_
  refine k_newi (N := 5) (cells' := 11) (slots' := 57) X hS wt_1_77 (by decide) (by decide) (Nat.le_of_ble_eq_true rfl) rfl rfl (Nat.le_of_ble_eq_true rfl) (Nat.le_of_ble_eq_true rfl) dX1_init_52 (fun H hS => ?_)
  refine k_put (ty := (.array .int)) kc_1 11 0 X hi hS (Nat.le_of_ble_eq_true rfl) rfl (Nat.le_of_ble_eq_true rfl) wt_1_195 rfl (by decide +kernel) rfl rfl (Nat.le_of_ble_eq_true rfl) dX1_init_54 (fun H locs hS => ?_)
  refine lv_aload_n hx hb dX1_init_57 rfl (lv_at hl 0 rfl) ?_
  refine lv_bipush (v := 6) hx hb dX1_init_58 (by decide) ?_
  refine k_newi (N := 6) (cells' := 12) (slots' := 63) X hS wt_1_77 (by decide) (by decide) (Nat.le_of_ble_eq_true rfl) rfl rfl (Nat.le_of_ble_eq_true rfl) (Nat.le_of_ble_eq_true rfl) dX1_init_60 (fun H hS => ?_)
  refine k_put (ty := (.array .int)) kc_1 12 0 X hi hS (Nat.le_of_ble_eq_true rfl) rfl (Nat.le_of_ble_eq_true rfl) wt_1_196 rfl (by decide +kernel) rfl rfl (Nat.le_of_ble_eq_true rfl) dX1_init_62 (fun H locs hS => ?_)
  refine lv_aload_n hx hb dX1_init_65 rfl (lv_at hl 0 rfl) ?_
  refine lv_aload_n hx hb dX1_init_66 rfl (lv_at hl 1 rfl) ?_
  refine k_put (ty := (.array (.object "BenchTowels$Plain"))) kc_1 0 0 X hi hS (Nat.le_of_ble_eq_true rfl) rfl (Nat.le_of_ble_eq_true rfl) wt_1_170 rfl (by decide +kernel) rfl rfl (Nat.le_of_ble_eq_true rfl) dX1_init_67 (fun H locs hS => ?_)
  refine lv_aload_n hx hb dX1_init_70 rfl (lv_at hl 0 rfl) ?_
  refine lv_aload_n hx hb dX1_init_71 rfl (lv_at hl 2 rfl) ?_
  refine k_put (ty := (.object "BenchTowels$Rules")) kc_1 1 0 X hi hS (Nat.le_of_ble_eq_true rfl) rfl (Nat.le_of_ble_eq_true rfl) wt_1_171 rfl (by decide +kernel) rfl rfl (Nat.le_of_ble_eq_true rfl) dX1_init_72 (fun H locs hS => ?_)
  exact k_ret X hr hlk hS (lt_all ⟨rfl, rfl, rfl, rfl, rfl, rfl, rfl, rfl, rfl, rfl, rfl, rfl, rfl, trivial⟩) dX1_init_75

def eX8_init (cA : Nat → ClassId) (h0 a1 : Nat) : Nat → va_E := fun k => ([.inr (8, [.int 0, .ref (h0 + 1), .ref (h0 + 2), .ref (h0 + 3), .ref (h0 + 4), .ref (h0 + 5), .ref (h0 + 6), .ref (h0 + 7), .int 0, .ref a1, .ref (h0 + 8), .ref (h0 + 9), .int 0]),
  arI cA 8 (fun _ => 0),
  arI cA 8 (fun _ => 0),
  arI cA 8 (fun _ => 0),
  arI cA 8 (fun _ => 0),
  arI cA 200 (fun _ => 0),
  arI cA 200 (fun _ => 0),
  arI cA 200 (fun _ => 0),
  arI cA 201 (fun _ => 0),
  arI cA 201 (fun _ => 0)] : List va_E).getD k (.inr (6, []))
set_option maxHeartbeats 4000000 in
set_option maxRecDepth 100000 in
theorem kX8_init (l : Launch) (D : va_G) (cA : Nat → ClassId) (h0 : Nat) (a1 : Nat) : Ctor l yX8_init cX8_init 2 { frames := 1, cells := 9, slots := 1034, locals := 12 } D cA h0 [.ref a1] (.inr (8, fs0 13 tyX8)) 10 (eX8_init cA h0 a1) 9 1034 := by
  refine ctor_of (by decide) rfl (Nat.le_of_ble_eq_true rfl) ?_
  intro p e s m0 below meth c ls X hi hr hlk hS hl
  generalize ([.ref h0, .ref a1] : List Value).toArray = args at X ⊢
  have hl : lv_has ls 2 [(0, .ref h0), (1, .ref a1)] := hl
  have X : CK D cA p s m0 args meth c "BenchTowels$Rules" cX8_init 2 := X
  have hx := X.1
  have hb := X.2.1
  refine lv_aload_n hx hb dX8_init_0 rfl (lv_at hl 0 rfl) ?_
  refine k_obj X wt_1_34 hl.1 dX8_init_1 (Nat.le_of_ble_eq_true rfl) (Nat.le_of_ble_eq_true rfl) ?_
  refine lv_aload_n hx hb dX8_init_4 rfl (lv_at hl 0 rfl) ?_
  refine lv_bipush (v := 8) hx hb dX8_init_5 (by decide) ?_
  refine k_newi (N := 8) (cells' := 1) (slots' := 8) X hS wt_1_77 (by decide) (by decide) (Nat.le_of_ble_eq_true rfl) rfl rfl (Nat.le_of_ble_eq_true rfl) (Nat.le_of_ble_eq_true rfl) dX8_init_7 (fun H hS => ?_)
  refine k_put (ty := (.array .int)) kc_8 1 0 X hi hS (Nat.le_of_ble_eq_true rfl) rfl (Nat.le_of_ble_eq_true rfl) wt_1_37 rfl (by decide +kernel) rfl rfl (Nat.le_of_ble_eq_true rfl) dX8_init_9 (fun H locs hS => ?_)
  refine lv_aload_n hx hb dX8_init_12 rfl (lv_at hl 0 rfl) ?_
  refine lv_bipush (v := 8) hx hb dX8_init_13 (by decide) ?_
  refine k_newi (N := 8) (cells' := 2) (slots' := 16) X hS wt_1_77 (by decide) (by decide) (Nat.le_of_ble_eq_true rfl) rfl rfl (Nat.le_of_ble_eq_true rfl) (Nat.le_of_ble_eq_true rfl) dX8_init_15 (fun H hS => ?_)
  refine k_put (ty := (.array .int)) kc_8 2 0 X hi hS (Nat.le_of_ble_eq_true rfl) rfl (Nat.le_of_ble_eq_true rfl) wt_1_38 rfl (by decide +kernel) rfl rfl (Nat.le_of_ble_eq_true rfl) dX8_init_17 (fun H locs hS => ?_)
  refine lv_aload_n hx hb dX8_init_20 rfl (lv_at hl 0 rfl) ?_
  refine lv_bipush (v := 8) hx hb dX8_init_21 (by decide) ?_
  refine k_newi (N := 8) (cells' := 3) (slots' := 24) X hS wt_1_77 (by decide) (by decide) (Nat.le_of_ble_eq_true rfl) rfl rfl (Nat.le_of_ble_eq_true rfl) (Nat.le_of_ble_eq_true rfl) dX8_init_23 (fun H hS => ?_)
  refine k_put (ty := (.array .int)) kc_8 3 0 X hi hS (Nat.le_of_ble_eq_true rfl) rfl (Nat.le_of_ble_eq_true rfl) wt_1_39 rfl (by decide +kernel) rfl rfl (Nat.le_of_ble_eq_true rfl) dX8_init_25 (fun H locs hS => ?_)
  refine lv_aload_n hx hb dX8_init_28 rfl (lv_at hl 0 rfl) ?_
  refine lv_bipush (v := 8) hx hb dX8_init_29 (by decide) ?_
  refine k_newi (N := 8) (cells' := 4) (slots' := 32) X hS wt_1_77 (by decide) (by decide) (Nat.le_of_ble_eq_true rfl) rfl rfl (Nat.le_of_ble_eq_true rfl) (Nat.le_of_ble_eq_true rfl) dX8_init_31 (fun H hS => ?_)
  refine k_put (ty := (.array .int)) kc_8 4 0 X hi hS (Nat.le_of_ble_eq_true rfl) rfl (Nat.le_of_ble_eq_true rfl) wt_1_40 rfl (by decide +kernel) rfl rfl (Nat.le_of_ble_eq_true rfl) dX8_init_33 (fun H locs hS => ?_)
  refine lv_aload_n hx hb dX8_init_36 rfl (lv_at hl 0 rfl) ?_
  refine lv_sipush (v := 200) hx hb dX8_init_37 (by decide) ?_
  refine k_newi (N := 200) (cells' := 5) (slots' := 232) X hS wt_1_77 (by decide) (by decide) (Nat.le_of_ble_eq_true rfl) rfl rfl (Nat.le_of_ble_eq_true rfl) (Nat.le_of_ble_eq_true rfl) dX8_init_40 (fun H hS => ?_)
  refine k_put (ty := (.array .int)) kc_8 5 0 X hi hS (Nat.le_of_ble_eq_true rfl) rfl (Nat.le_of_ble_eq_true rfl) wt_1_41 rfl (by decide +kernel) rfl rfl (Nat.le_of_ble_eq_true rfl) dX8_init_42 (fun H locs hS => ?_)
  refine lv_aload_n hx hb dX8_init_45 rfl (lv_at hl 0 rfl) ?_
  refine lv_sipush (v := 200) hx hb dX8_init_46 (by decide) ?_
  refine k_newi (N := 200) (cells' := 6) (slots' := 432) X hS wt_1_77 (by decide) (by decide) (Nat.le_of_ble_eq_true rfl) rfl rfl (Nat.le_of_ble_eq_true rfl) (Nat.le_of_ble_eq_true rfl) dX8_init_49 (fun H hS => ?_)
  refine k_put (ty := (.array .int)) kc_8 6 0 X hi hS (Nat.le_of_ble_eq_true rfl) rfl (Nat.le_of_ble_eq_true rfl) wt_1_42 rfl (by decide +kernel) rfl rfl (Nat.le_of_ble_eq_true rfl) dX8_init_51 (fun H locs hS => ?_)
  refine lv_aload_n hx hb dX8_init_54 rfl (lv_at hl 0 rfl) ?_
  refine lv_sipush (v := 200) hx hb dX8_init_55 (by decide) ?_
  refine k_newi (N := 200) (cells' := 7) (slots' := 632) X hS wt_1_77 (by decide) (by decide) (Nat.le_of_ble_eq_true rfl) rfl rfl (Nat.le_of_ble_eq_true rfl) (Nat.le_of_ble_eq_true rfl) dX8_init_58 (fun H hS => ?_)
  refine k_put (ty := (.array .int)) kc_8 7 0 X hi hS (Nat.le_of_ble_eq_true rfl) rfl (Nat.le_of_ble_eq_true rfl) wt_1_43 rfl (by decide +kernel) rfl rfl (Nat.le_of_ble_eq_true rfl) dX8_init_60 (fun H locs hS => ?_)
  refine lv_aload_n hx hb dX8_init_63 rfl (lv_at hl 0 rfl) ?_
  refine lv_sipush (v := 201) hx hb dX8_init_64 (by decide) ?_
  refine k_newi (N := 201) (cells' := 8) (slots' := 833) X hS wt_1_77 (by decide) (by decide) (Nat.le_of_ble_eq_true rfl) rfl rfl (Nat.le_of_ble_eq_true rfl) (Nat.le_of_ble_eq_true rfl) dX8_init_67 (fun H hS => ?_)
  refine k_put (ty := (.array .int)) kc_8 10 0 X hi hS (Nat.le_of_ble_eq_true rfl) rfl (Nat.le_of_ble_eq_true rfl) wt_1_46 rfl (by decide +kernel) rfl rfl (Nat.le_of_ble_eq_true rfl) dX8_init_69 (fun H locs hS => ?_)
  refine lv_aload_n hx hb dX8_init_72 rfl (lv_at hl 0 rfl) ?_
  refine lv_sipush (v := 201) hx hb dX8_init_73 (by decide) ?_
  refine k_newi (N := 201) (cells' := 9) (slots' := 1034) X hS wt_1_77 (by decide) (by decide) (Nat.le_of_ble_eq_true rfl) rfl rfl (Nat.le_of_ble_eq_true rfl) (Nat.le_of_ble_eq_true rfl) dX8_init_76 (fun H hS => ?_)
  refine k_put (ty := (.array .int)) kc_8 11 0 X hi hS (Nat.le_of_ble_eq_true rfl) rfl (Nat.le_of_ble_eq_true rfl) wt_1_47 rfl (by decide +kernel) rfl rfl (Nat.le_of_ble_eq_true rfl) dX8_init_78 (fun H locs hS => ?_)
  refine lv_aload_n hx hb dX8_init_81 rfl (lv_at hl 0 rfl) ?_
  refine lv_aload_n hx hb dX8_init_82 rfl (lv_at hl 1 rfl) ?_
  refine k_put (ty := (.array .byte)) kc_8 9 0 X hi hS (Nat.le_of_ble_eq_true rfl) rfl (Nat.le_of_ble_eq_true rfl) wt_1_45 rfl (by decide +kernel) rfl rfl (Nat.le_of_ble_eq_true rfl) dX8_init_83 (fun H locs hS => ?_)
  exact k_ret X hr hlk hS (lt_all ⟨rfl, rfl, rfl, rfl, rfl, rfl, rfl, rfl, rfl, rfl, trivial⟩) dX8_init_86

def eX4_init (cA : Nat → ClassId) (h0 : Nat) : Nat → va_E := fun k => ([.inr (4, [.ref (h0 + 1), .ref (h0 + 2), .ref (h0 + 3), .int 0, .int 0, .int 0, .int 0, .int 0, .int 0]),
  arI cA 6 (fun _ => 0),
  arI cA 6 (fun _ => 0),
  arI cA 6 (fun _ => 0)] : List va_E).getD k (.inr (6, []))
set_option maxHeartbeats 4000000 in
set_option maxRecDepth 100000 in
theorem kX4_init (l : Launch) (D : va_G) (cA : Nat → ClassId) (h0 : Nat) : Ctor l yX4_init cX4_init 1 { frames := 1, cells := 3, slots := 18, locals := 12 } D cA h0 [] (.inr (4, fs0 9 tyX4)) 4 (eX4_init cA h0) 3 18 := by
  refine ctor_of (by decide) rfl (Nat.le_of_ble_eq_true rfl) ?_
  intro p e s m0 below meth c ls X hi hr hlk hS hl
  generalize ([.ref h0] : List Value).toArray = args at X ⊢
  have hl : lv_has ls 1 [(0, .ref h0)] := hl
  have X : CK D cA p s m0 args meth c "BenchTowels$Men" cX4_init 1 := X
  have hx := X.1
  have hb := X.2.1
  refine lv_aload_n hx hb dX4_init_0 rfl (lv_at hl 0 rfl) ?_
  refine k_obj X wt_1_83 hl.1 dX4_init_1 (Nat.le_of_ble_eq_true rfl) (Nat.le_of_ble_eq_true rfl) ?_
  refine lv_aload_n hx hb dX4_init_4 rfl (lv_at hl 0 rfl) ?_
  refine lv_bipush (v := 6) hx hb dX4_init_5 (by decide) ?_
  refine k_newi (N := 6) (cells' := 1) (slots' := 6) X hS wt_1_77 (by decide) (by decide) (Nat.le_of_ble_eq_true rfl) rfl rfl (Nat.le_of_ble_eq_true rfl) (Nat.le_of_ble_eq_true rfl) dX4_init_7 (fun H hS => ?_)
  refine k_put (ty := (.array .int)) kc_4 0 0 X hi hS (Nat.le_of_ble_eq_true rfl) rfl (Nat.le_of_ble_eq_true rfl) wt_1_84 rfl (by decide +kernel) rfl rfl (Nat.le_of_ble_eq_true rfl) dX4_init_9 (fun H locs hS => ?_)
  refine lv_aload_n hx hb dX4_init_12 rfl (lv_at hl 0 rfl) ?_
  refine lv_bipush (v := 6) hx hb dX4_init_13 (by decide) ?_
  refine k_newi (N := 6) (cells' := 2) (slots' := 12) X hS wt_1_77 (by decide) (by decide) (Nat.le_of_ble_eq_true rfl) rfl rfl (Nat.le_of_ble_eq_true rfl) (Nat.le_of_ble_eq_true rfl) dX4_init_15 (fun H hS => ?_)
  refine k_put (ty := (.array .int)) kc_4 1 0 X hi hS (Nat.le_of_ble_eq_true rfl) rfl (Nat.le_of_ble_eq_true rfl) wt_1_85 rfl (by decide +kernel) rfl rfl (Nat.le_of_ble_eq_true rfl) dX4_init_17 (fun H locs hS => ?_)
  refine lv_aload_n hx hb dX4_init_20 rfl (lv_at hl 0 rfl) ?_
  refine lv_bipush (v := 6) hx hb dX4_init_21 (by decide) ?_
  refine k_newi (N := 6) (cells' := 3) (slots' := 18) X hS wt_1_77 (by decide) (by decide) (Nat.le_of_ble_eq_true rfl) rfl rfl (Nat.le_of_ble_eq_true rfl) (Nat.le_of_ble_eq_true rfl) dX4_init_23 (fun H hS => ?_)
  refine k_put (ty := (.array .int)) kc_4 2 0 X hi hS (Nat.le_of_ble_eq_true rfl) rfl (Nat.le_of_ble_eq_true rfl) wt_1_86 rfl (by decide +kernel) rfl rfl (Nat.le_of_ble_eq_true rfl) dX4_init_25 (fun H locs hS => ?_)
  exact k_ret X hr hlk hS (lt_all ⟨rfl, rfl, rfl, rfl, trivial⟩) dX4_init_28

theorem kX6_init (l : Launch) (D : va_G) (cA : Nat → ClassId) (h0 : Nat) (e0 : va_E) : Ctor l yX6_init cX6_init 1 { frames := 1, cells := 0, slots := 0, locals := 12 } D cA h0 [] e0 1 (fun _ => e0) 0 0 := by
  refine ctor_of (by decide) rfl (Nat.le_of_ble_eq_true rfl) ?_
  intro p e s m0 below meth c ls X hi hr hlk hS hl
  generalize ([.ref h0] : List Value).toArray = args at X ⊢
  have hl : lv_has ls 1 [(0, .ref h0)] := hl
  have X : CK D cA p s m0 args meth c "BenchTowels$Plain" cX6_init 1 := X
  have hx := X.1
  have hb := X.2.1
  refine lv_aload_n hx hb dX6_init_0 rfl (lv_at hl 0 rfl) ?_
  refine k_obj X wt_1_126 hl.1 dX6_init_1 (Nat.le_of_ble_eq_true rfl) (Nat.le_of_ble_eq_true rfl) ?_
  exact k_ret X hr hlk hS (lt_all ⟨rfl, trivial⟩) dX6_init_4

theorem kX0_init (l : Launch) (D : va_G) (cA : Nat → ClassId) (h0 : Nat) (e0 : va_E) : Ctor l yX0_init cX0_init 1 { frames := 2, cells := 0, slots := 0, locals := 32 } D cA h0 [] e0 1 (fun _ => e0) 0 0 := by
  refine ctor_of (by decide) rfl (Nat.le_of_ble_eq_true rfl) ?_
  intro p e s m0 below meth c ls X hi hr hlk hS hl
  generalize ([.ref h0] : List Value).toArray = args at X ⊢
  have hl : lv_has ls 1 [(0, .ref h0)] := hl
  have X : CK D cA p s m0 args meth c "BenchTowels$Alone" cX0_init 1 := X
  have hx := X.1
  have hb := X.2.1
  refine lv_aload_n hx hb dX0_init_0 rfl (lv_at hl 0 rfl) ?_
  refine k_callN (As := []) (rest := []) (n' := 1) (cells' := 0) (slots' := 0) X hS (kX6_init l D cA (h0 + 0) e0) rfl rfl (List.mem_of_getElem? (i := 7) rfl) wt_1_124 wt_1_4 wt_1_125 ⟨rfl, hy_X6_init⟩ ⟨rfl, rfl⟩ ⟨(Nat.le_of_ble_eq_true rfl), (Nat.le_of_ble_eq_true rfl)⟩ rfl hl.1 rfl (Nat.le_of_ble_eq_true rfl) dX0_init_1 rfl rfl rfl (Nat.le_of_ble_eq_true rfl) (Nat.le_of_ble_eq_true rfl) (fun H locs hS => ?_)
  exact k_ret X hr hlk hS (lt_all ⟨rfl, trivial⟩) dX0_init_4

theorem kX9_init (l : Launch) (D : va_G) (cA : Nat → ClassId) (h0 : Nat) (e0 : va_E) : Ctor l yX9_init cX9_init 1 { frames := 2, cells := 0, slots := 0, locals := 32 } D cA h0 [] e0 1 (fun _ => e0) 0 0 := by
  refine ctor_of (by decide) rfl (Nat.le_of_ble_eq_true rfl) ?_
  intro p e s m0 below meth c ls X hi hr hlk hS hl
  generalize ([.ref h0] : List Value).toArray = args at X ⊢
  have hl : lv_has ls 1 [(0, .ref h0)] := hl
  have X : CK D cA p s m0 args meth c "BenchTowels$Shared" cX9_init 1 := X
  have hx := X.1
  have hb := X.2.1
  refine lv_aload_n hx hb dX9_init_0 rfl (lv_at hl 0 rfl) ?_
  refine k_callN (As := []) (rest := []) (n' := 1) (cells' := 0) (slots' := 0) X hS (kX6_init l D cA (h0 + 0) e0) rfl rfl (List.mem_of_getElem? (i := 10) rfl) wt_1_124 wt_1_4 wt_1_125 ⟨rfl, hy_X6_init⟩ ⟨rfl, rfl⟩ ⟨(Nat.le_of_ble_eq_true rfl), (Nat.le_of_ble_eq_true rfl)⟩ rfl hl.1 rfl (Nat.le_of_ble_eq_true rfl) dX9_init_1 rfl rfl rfl (Nat.le_of_ble_eq_true rfl) (Nat.le_of_ble_eq_true rfl) (fun H locs hS => ?_)
  exact k_ret X hr hlk hS (lt_all ⟨rfl, trivial⟩) dX9_init_4

theorem kX5_init (l : Launch) (D : va_G) (cA : Nat → ClassId) (h0 : Nat) (e0 : va_E) : Ctor l yX5_init cX5_init 1 { frames := 3, cells := 0, slots := 0, locals := 52 } D cA h0 [] e0 1 (fun _ => e0) 0 0 := by
  refine ctor_of (by decide) rfl (Nat.le_of_ble_eq_true rfl) ?_
  intro p e s m0 below meth c ls X hi hr hlk hS hl
  generalize ([.ref h0] : List Value).toArray = args at X ⊢
  have hl : lv_has ls 1 [(0, .ref h0)] := hl
  have X : CK D cA p s m0 args meth c "BenchTowels$Paired" cX5_init 1 := X
  have hx := X.1
  have hb := X.2.1
  refine lv_aload_n hx hb dX5_init_0 rfl (lv_at hl 0 rfl) ?_
  refine k_callN (As := []) (rest := []) (n' := 1) (cells' := 0) (slots' := 0) X hS (kX9_init l D cA (h0 + 0) e0) rfl rfl (List.mem_of_getElem? (i := 9) rfl) wt_1_138 wt_1_6 wt_1_139 ⟨rfl, hy_X9_init⟩ ⟨rfl, rfl⟩ ⟨(Nat.le_of_ble_eq_true rfl), (Nat.le_of_ble_eq_true rfl)⟩ rfl hl.1 rfl (Nat.le_of_ble_eq_true rfl) dX5_init_1 rfl rfl rfl (Nat.le_of_ble_eq_true rfl) (Nat.le_of_ble_eq_true rfl) (fun H locs hS => ?_)
  exact k_ret X hr hlk hS (lt_all ⟨rfl, trivial⟩) dX5_init_4

theorem kX2_init (l : Launch) (D : va_G) (cA : Nat → ClassId) (h0 : Nat) (e0 : va_E) : Ctor l yX2_init cX2_init 1 { frames := 2, cells := 0, slots := 0, locals := 32 } D cA h0 [] e0 1 (fun _ => e0) 0 0 := by
  refine ctor_of (by decide) rfl (Nat.le_of_ble_eq_true rfl) ?_
  intro p e s m0 below meth c ls X hi hr hlk hS hl
  generalize ([.ref h0] : List Value).toArray = args at X ⊢
  have hl : lv_has ls 1 [(0, .ref h0)] := hl
  have X : CK D cA p s m0 args meth c "BenchTowels$Held" cX2_init 1 := X
  have hx := X.1
  have hb := X.2.1
  refine lv_aload_n hx hb dX2_init_0 rfl (lv_at hl 0 rfl) ?_
  refine k_callN (As := []) (rest := []) (n' := 1) (cells' := 0) (slots' := 0) X hS (kX6_init l D cA (h0 + 0) e0) rfl rfl (List.mem_of_getElem? (i := 8) rfl) wt_1_124 wt_1_4 wt_1_125 ⟨rfl, hy_X6_init⟩ ⟨rfl, rfl⟩ ⟨(Nat.le_of_ble_eq_true rfl), (Nat.le_of_ble_eq_true rfl)⟩ rfl hl.1 rfl (Nat.le_of_ble_eq_true rfl) dX2_init_1 rfl rfl rfl (Nat.le_of_ble_eq_true rfl) (Nat.le_of_ble_eq_true rfl) (fun H locs hS => ?_)
  exact k_ret X hr hlk hS (lt_all ⟨rfl, trivial⟩) dX2_init_4

theorem kX10_init (l : Launch) (D : va_G) (cA : Nat → ClassId) (h0 : Nat) (e0 : va_E) : Ctor l yX10_init cX10_init 1 { frames := 3, cells := 0, slots := 0, locals := 52 } D cA h0 [] e0 1 (fun _ => e0) 0 0 := by
  refine ctor_of (by decide) rfl (Nat.le_of_ble_eq_true rfl) ?_
  intro p e s m0 below meth c ls X hi hr hlk hS hl
  generalize ([.ref h0] : List Value).toArray = args at X ⊢
  have hl : lv_has ls 1 [(0, .ref h0)] := hl
  have X : CK D cA p s m0 args meth c "BenchTowels$Unasked" cX10_init 1 := X
  have hx := X.1
  have hb := X.2.1
  refine lv_aload_n hx hb dX10_init_0 rfl (lv_at hl 0 rfl) ?_
  refine k_callN (As := []) (rest := []) (n' := 1) (cells' := 0) (slots' := 0) X hS (kX2_init l D cA (h0 + 0) e0) rfl rfl (List.mem_of_getElem? (i := 11) rfl) wt_1_152 wt_1_8 wt_1_153 ⟨rfl, hy_X2_init⟩ ⟨rfl, rfl⟩ ⟨(Nat.le_of_ble_eq_true rfl), (Nat.le_of_ble_eq_true rfl)⟩ rfl hl.1 rfl (Nat.le_of_ble_eq_true rfl) dX10_init_1 rfl rfl rfl (Nat.le_of_ble_eq_true rfl) (Nat.le_of_ble_eq_true rfl) (fun H locs hS => ?_)
  exact k_ret X hr hlk hS (lt_all ⟨rfl, trivial⟩) dX10_init_4

def eX7_init (cA : Nat → ClassId) (h0 a1 a2 : Nat) : Nat → va_E := fun k => ([.inr (7, [.ref (h0 + 1), .ref (h0 + 2), .int 0, .int 0, .ref (h0 + 3), .int 0, .int 0, .int 0, .int 0, .int 0, .int 0, .int 0]),
  arQ (cA 4) 5 (va_up (va_up (va_up (va_up (va_up (fun _ => none) 0 (some (h0 + 4))) 1 (some (h0 + 17))) 2 (some (h0 + 30))) 3 (some (h0 + 43))) 4 (some (h0 + 56))),
  arI cA 4 (fun _ => 0),
  arI cA 4 (fun _ => 0),
  .inr (1, [.ref a1, .ref a2, .ref (h0 + 5), .int 0, .ref (h0 + 11), .ref (h0 + 14), .int 0, .int 12, .int 0, .int 1, .int (-3), .ref (h0 + 15), .ref (h0 + 16)]),
  arQ (cA 2) 5 (fun j => if j < 5 then some ((h0 + 4) + 1 + 1 + j) else none),
  arI cA 6 (fun _ => 0),
  arI cA 6 (fun _ => 0),
  arI cA 6 (fun _ => 0),
  arI cA 6 (fun _ => 0),
  arI cA 6 (fun _ => 0),
  arQ (cA 2) 2 (fun j => if j < 2 then some ((h0 + 4) + 7 + 1 + j) else none),
  arI cA 6 (fun _ => 0),
  arI cA 6 (fun _ => 0),
  arI cA 3 (fun _ => 0),
  arI cA 5 (fun _ => 0),
  arI cA 6 (fun _ => 0),
  .inr (1, [.ref a1, .ref a2, .ref (h0 + 18), .int 0, .ref (h0 + 24), .ref (h0 + 27), .int 0, .int 12, .int 0, .int 1, .int (-3), .ref (h0 + 28), .ref (h0 + 29)]),
  arQ (cA 2) 5 (fun j => if j < 5 then some ((h0 + 17) + 1 + 1 + j) else none),
  arI cA 6 (fun _ => 0),
  arI cA 6 (fun _ => 0),
  arI cA 6 (fun _ => 0),
  arI cA 6 (fun _ => 0),
  arI cA 6 (fun _ => 0),
  arQ (cA 2) 2 (fun j => if j < 2 then some ((h0 + 17) + 7 + 1 + j) else none),
  arI cA 6 (fun _ => 0),
  arI cA 6 (fun _ => 0),
  arI cA 3 (fun _ => 0),
  arI cA 5 (fun _ => 0),
  arI cA 6 (fun _ => 0),
  .inr (1, [.ref a1, .ref a2, .ref (h0 + 31), .int 0, .ref (h0 + 37), .ref (h0 + 40), .int 0, .int 12, .int 0, .int 1, .int (-3), .ref (h0 + 41), .ref (h0 + 42)]),
  arQ (cA 2) 5 (fun j => if j < 5 then some ((h0 + 30) + 1 + 1 + j) else none),
  arI cA 6 (fun _ => 0),
  arI cA 6 (fun _ => 0),
  arI cA 6 (fun _ => 0),
  arI cA 6 (fun _ => 0),
  arI cA 6 (fun _ => 0),
  arQ (cA 2) 2 (fun j => if j < 2 then some ((h0 + 30) + 7 + 1 + j) else none),
  arI cA 6 (fun _ => 0),
  arI cA 6 (fun _ => 0),
  arI cA 3 (fun _ => 0),
  arI cA 5 (fun _ => 0),
  arI cA 6 (fun _ => 0),
  .inr (1, [.ref a1, .ref a2, .ref (h0 + 44), .int 0, .ref (h0 + 50), .ref (h0 + 53), .int 0, .int 12, .int 0, .int 1, .int (-3), .ref (h0 + 54), .ref (h0 + 55)]),
  arQ (cA 2) 5 (fun j => if j < 5 then some ((h0 + 43) + 1 + 1 + j) else none),
  arI cA 6 (fun _ => 0),
  arI cA 6 (fun _ => 0),
  arI cA 6 (fun _ => 0),
  arI cA 6 (fun _ => 0),
  arI cA 6 (fun _ => 0),
  arQ (cA 2) 2 (fun j => if j < 2 then some ((h0 + 43) + 7 + 1 + j) else none),
  arI cA 6 (fun _ => 0),
  arI cA 6 (fun _ => 0),
  arI cA 3 (fun _ => 0),
  arI cA 5 (fun _ => 0),
  arI cA 6 (fun _ => 0),
  .inr (1, [.ref a1, .ref a2, .ref (h0 + 57), .int 0, .ref (h0 + 63), .ref (h0 + 66), .int 0, .int 12, .int 0, .int 1, .int (-3), .ref (h0 + 67), .ref (h0 + 68)]),
  arQ (cA 2) 5 (fun j => if j < 5 then some ((h0 + 56) + 1 + 1 + j) else none),
  arI cA 6 (fun _ => 0),
  arI cA 6 (fun _ => 0),
  arI cA 6 (fun _ => 0),
  arI cA 6 (fun _ => 0),
  arI cA 6 (fun _ => 0),
  arQ (cA 2) 2 (fun j => if j < 2 then some ((h0 + 56) + 7 + 1 + j) else none),
  arI cA 6 (fun _ => 0),
  arI cA 6 (fun _ => 0),
  arI cA 3 (fun _ => 0),
  arI cA 5 (fun _ => 0),
  arI cA 6 (fun _ => 0)] : List va_E).getD k (.inr (6, []))
set_option maxHeartbeats 4000000 in
set_option maxRecDepth 100000 in
theorem kX7_init (l : Launch) (D : va_G) (cA : Nat → ClassId) (h0 : Nat) (a1 a2 : Nat) : Ctor l yX7_init cX7_init 4 { frames := 2, cells := 68, slots := 393, locals := 34 } D cA h0 [.ref a1, .ref a2] (.inr (7, fs0 12 tyX7)) 69 (eX7_init cA h0 a1 a2) 68 393 := by
  refine ctor_of (by decide) rfl (Nat.le_of_ble_eq_true rfl) ?_
  intro p e s m0 below meth c ls X hi hr hlk hS hl
  generalize ([.ref h0, .ref a1, .ref a2] : List Value).toArray = args at X ⊢
  have hl : lv_has ls 4 [(0, .ref h0), (1, .ref a1), (2, .ref a2)] := hl
  have X : CK D cA p s m0 args meth c "BenchTowels$Plans" cX7_init 4 := X
  have hx := X.1
  have hb := X.2.1
  refine lv_aload_n hx hb dX7_init_0 rfl (lv_at hl 0 rfl) ?_
  refine k_obj X wt_1_229 hl.1 dX7_init_1 (Nat.le_of_ble_eq_true rfl) (Nat.le_of_ble_eq_true rfl) ?_
  refine lv_aload_n hx hb dX7_init_4 rfl (lv_at hl 0 rfl) ?_
  refine lv_iconst (v := 5) hx hb dX7_init_5 (by decide) ?_
  refine k_anew (t := 4) (N := 5) (cells' := 1) (slots' := 5) rfl X.2.2.2.2.2.2.2.2.2.1 X hS wt_1_230 (by decide) (by decide) (Nat.le_of_ble_eq_true rfl) rfl rfl (Nat.le_of_ble_eq_true rfl) (Nat.le_of_ble_eq_true rfl) dX7_init_6 (fun H hS => ?_)
  refine k_put (ty := (.array (.object "BenchTowels$Gym"))) kc_7 0 0 X hi hS (Nat.le_of_ble_eq_true rfl) rfl (Nat.le_of_ble_eq_true rfl) wt_1_233 rfl (by decide +kernel) rfl rfl (Nat.le_of_ble_eq_true rfl) dX7_init_9 (fun H locs hS => ?_)
  refine lv_aload_n hx hb dX7_init_12 rfl (lv_at hl 0 rfl) ?_
  refine lv_iconst (v := 4) hx hb dX7_init_13 (by decide) ?_
  refine k_newi (N := 4) (cells' := 2) (slots' := 9) X hS wt_1_77 (by decide) (by decide) (Nat.le_of_ble_eq_true rfl) rfl rfl (Nat.le_of_ble_eq_true rfl) (Nat.le_of_ble_eq_true rfl) dX7_init_14 (fun H hS => ?_)
  refine k_put (ty := (.array .int)) kc_7 1 0 X hi hS (Nat.le_of_ble_eq_true rfl) rfl (Nat.le_of_ble_eq_true rfl) wt_1_234 rfl (by decide +kernel) rfl rfl (Nat.le_of_ble_eq_true rfl) dX7_init_16 (fun H locs hS => ?_)
  refine lv_aload_n hx hb dX7_init_19 rfl (lv_at hl 0 rfl) ?_
  refine lv_iconst (v := 4) hx hb dX7_init_20 (by decide) ?_
  refine k_newi (N := 4) (cells' := 3) (slots' := 13) X hS wt_1_77 (by decide) (by decide) (Nat.le_of_ble_eq_true rfl) rfl rfl (Nat.le_of_ble_eq_true rfl) (Nat.le_of_ble_eq_true rfl) dX7_init_21 (fun H hS => ?_)
  refine k_put (ty := (.array .int)) kc_7 4 0 X hi hS (Nat.le_of_ble_eq_true rfl) rfl (Nat.le_of_ble_eq_true rfl) wt_1_237 rfl (by decide +kernel) rfl rfl (Nat.le_of_ble_eq_true rfl) dX7_init_23 (fun H locs hS => ?_)
  refine lv_iconst (v := 0) hx hb dX7_init_26 (by decide) ?_
  refine lv_istore_n hx hb dX7_init_27 rfl hl (by decide) rfl (fun ls hl => ?_)
  have hl : lv_has ls 4 [(3, .int 0), (0, .ref h0), (1, .ref a1), (2, .ref a2)] := hl
  refine lv_iload_n hx hb dX7_init_28 rfl (lv_at hl 0 rfl) ?_
  refine lv_iconst (v := 4) hx hb dX7_init_29 (by decide) ?_
  refine lv_icmp_gt (tgt := 54) hx hb dX7_init_30 (by decide) (fun c => absurd c (by decide)) (fun _ => ?_)
  refine lv_aload_n hx hb dX7_init_33 rfl (lv_at hl 1 rfl) ?_
  refine k_get (v := .ref (h0 + 1)) kc_7 0 0 X hS (Nat.le_of_ble_eq_true rfl) rfl (Nat.le_of_ble_eq_true rfl) wt_1_233 rfl dX7_init_34 ?_
  refine lv_iload_n hx hb dX7_init_37 rfl (lv_at hl 0 rfl) ?_
  refine k_new kc_1 (cells' := 4) (slots' := 26) X hS wt_1_230 wt_1_164 wt_1_10 rfl rfl (Nat.le_of_ble_eq_true rfl) (Nat.le_of_ble_eq_true rfl) dX7_init_38 (fun H hS => ?_)
  refine lv_dup hx hb dX7_init_41 rfl ?_
  refine lv_aload_n hx hb dX7_init_42 rfl (lv_at hl 2 rfl) ?_
  refine lv_aload_n hx hb dX7_init_43 rfl (lv_at hl 3 rfl) ?_
  refine k_call (As := [.ref a1, .ref a2]) (rest := [.ref (h0 + 4), .int 0, .ref (h0 + 1)]) (n' := 17) (cells' := 16) (slots' := 89) X hS (kX1_init l D cA (h0 + 4) (a1) (a2)) rfl rfl wt_1_232 wt_1_166 wt_1_10 wt_1_167 ⟨rfl, hy_X1_init⟩ ⟨rfl, rfl⟩ ⟨(Nat.le_of_ble_eq_true rfl), (Nat.le_of_ble_eq_true rfl)⟩ rfl hl.1 rfl (Nat.le_of_ble_eq_true rfl) dX7_init_44 rfl rfl rfl (Nat.le_of_ble_eq_true rfl) (Nat.le_of_ble_eq_true rfl) (fun H locs hS => ?_)
  refine k_aast (EC := "BenchTowels$Gym") (iN := 0) kc_1 4 1 4 rfl (Or.inl rfl) X hS (Nat.le_of_ble_eq_true rfl) rfl (Nat.le_of_ble_eq_true rfl) rfl (by decide) (vpc (by decide)) dX7_init_47 (fun H locs hS => ?_)
  refine lv_iinc (v := 1) hx hb dX7_init_48 hl (k := 0) rfl (by decide) (by decide) rfl (fun ls hl => ?_)
  have hl : lv_has ls 4 [(3, .int 1), (0, .ref h0), (1, .ref a1), (2, .ref a2)] := hl
  refine lv_goto (tgt := 28) hx hb dX7_init_51 (by decide) ?_
  refine lv_iload_n hx hb dX7_init_28 rfl (lv_at hl 0 rfl) ?_
  refine lv_iconst (v := 4) hx hb dX7_init_29 (by decide) ?_
  refine lv_icmp_gt (tgt := 54) hx hb dX7_init_30 (by decide) (fun c => absurd c (by decide)) (fun _ => ?_)
  refine lv_aload_n hx hb dX7_init_33 rfl (lv_at hl 1 rfl) ?_
  refine k_get (v := .ref (h0 + 1)) kc_7 0 0 X hS (Nat.le_of_ble_eq_true rfl) rfl (Nat.le_of_ble_eq_true rfl) wt_1_233 rfl dX7_init_34 ?_
  refine lv_iload_n hx hb dX7_init_37 rfl (lv_at hl 0 rfl) ?_
  refine k_new kc_1 (cells' := 17) (slots' := 102) X hS wt_1_230 wt_1_164 wt_1_10 rfl rfl (Nat.le_of_ble_eq_true rfl) (Nat.le_of_ble_eq_true rfl) dX7_init_38 (fun H hS => ?_)
  refine lv_dup hx hb dX7_init_41 rfl ?_
  refine lv_aload_n hx hb dX7_init_42 rfl (lv_at hl 2 rfl) ?_
  refine lv_aload_n hx hb dX7_init_43 rfl (lv_at hl 3 rfl) ?_
  refine k_call (As := [.ref a1, .ref a2]) (rest := [.ref (h0 + 17), .int 1, .ref (h0 + 1)]) (n' := 30) (cells' := 29) (slots' := 165) X hS (kX1_init l D cA (h0 + 17) (a1) (a2)) rfl rfl wt_1_232 wt_1_166 wt_1_10 wt_1_167 ⟨rfl, hy_X1_init⟩ ⟨rfl, rfl⟩ ⟨(Nat.le_of_ble_eq_true rfl), (Nat.le_of_ble_eq_true rfl)⟩ rfl hl.1 rfl (Nat.le_of_ble_eq_true rfl) dX7_init_44 rfl rfl rfl (Nat.le_of_ble_eq_true rfl) (Nat.le_of_ble_eq_true rfl) (fun H locs hS => ?_)
  refine k_aast (EC := "BenchTowels$Gym") (iN := 1) kc_1 4 1 17 rfl (Or.inl rfl) X hS (Nat.le_of_ble_eq_true rfl) rfl (Nat.le_of_ble_eq_true rfl) rfl (by decide) (vpc (by decide)) dX7_init_47 (fun H locs hS => ?_)
  refine lv_iinc (v := 2) hx hb dX7_init_48 hl (k := 0) rfl (by decide) (by decide) rfl (fun ls hl => ?_)
  have hl : lv_has ls 4 [(3, .int 2), (0, .ref h0), (1, .ref a1), (2, .ref a2)] := hl
  refine lv_goto (tgt := 28) hx hb dX7_init_51 (by decide) ?_
  refine lv_iload_n hx hb dX7_init_28 rfl (lv_at hl 0 rfl) ?_
  refine lv_iconst (v := 4) hx hb dX7_init_29 (by decide) ?_
  refine lv_icmp_gt (tgt := 54) hx hb dX7_init_30 (by decide) (fun c => absurd c (by decide)) (fun _ => ?_)
  refine lv_aload_n hx hb dX7_init_33 rfl (lv_at hl 1 rfl) ?_
  refine k_get (v := .ref (h0 + 1)) kc_7 0 0 X hS (Nat.le_of_ble_eq_true rfl) rfl (Nat.le_of_ble_eq_true rfl) wt_1_233 rfl dX7_init_34 ?_
  refine lv_iload_n hx hb dX7_init_37 rfl (lv_at hl 0 rfl) ?_
  refine k_new kc_1 (cells' := 30) (slots' := 178) X hS wt_1_230 wt_1_164 wt_1_10 rfl rfl (Nat.le_of_ble_eq_true rfl) (Nat.le_of_ble_eq_true rfl) dX7_init_38 (fun H hS => ?_)
  refine lv_dup hx hb dX7_init_41 rfl ?_
  refine lv_aload_n hx hb dX7_init_42 rfl (lv_at hl 2 rfl) ?_
  refine lv_aload_n hx hb dX7_init_43 rfl (lv_at hl 3 rfl) ?_
  refine k_call (As := [.ref a1, .ref a2]) (rest := [.ref (h0 + 30), .int 2, .ref (h0 + 1)]) (n' := 43) (cells' := 42) (slots' := 241) X hS (kX1_init l D cA (h0 + 30) (a1) (a2)) rfl rfl wt_1_232 wt_1_166 wt_1_10 wt_1_167 ⟨rfl, hy_X1_init⟩ ⟨rfl, rfl⟩ ⟨(Nat.le_of_ble_eq_true rfl), (Nat.le_of_ble_eq_true rfl)⟩ rfl hl.1 rfl (Nat.le_of_ble_eq_true rfl) dX7_init_44 rfl rfl rfl (Nat.le_of_ble_eq_true rfl) (Nat.le_of_ble_eq_true rfl) (fun H locs hS => ?_)
  refine k_aast (EC := "BenchTowels$Gym") (iN := 2) kc_1 4 1 30 rfl (Or.inl rfl) X hS (Nat.le_of_ble_eq_true rfl) rfl (Nat.le_of_ble_eq_true rfl) rfl (by decide) (vpc (by decide)) dX7_init_47 (fun H locs hS => ?_)
  refine lv_iinc (v := 3) hx hb dX7_init_48 hl (k := 0) rfl (by decide) (by decide) rfl (fun ls hl => ?_)
  have hl : lv_has ls 4 [(3, .int 3), (0, .ref h0), (1, .ref a1), (2, .ref a2)] := hl
  refine lv_goto (tgt := 28) hx hb dX7_init_51 (by decide) ?_
  refine lv_iload_n hx hb dX7_init_28 rfl (lv_at hl 0 rfl) ?_
  refine lv_iconst (v := 4) hx hb dX7_init_29 (by decide) ?_
  refine lv_icmp_gt (tgt := 54) hx hb dX7_init_30 (by decide) (fun c => absurd c (by decide)) (fun _ => ?_)
  refine lv_aload_n hx hb dX7_init_33 rfl (lv_at hl 1 rfl) ?_
  refine k_get (v := .ref (h0 + 1)) kc_7 0 0 X hS (Nat.le_of_ble_eq_true rfl) rfl (Nat.le_of_ble_eq_true rfl) wt_1_233 rfl dX7_init_34 ?_
  refine lv_iload_n hx hb dX7_init_37 rfl (lv_at hl 0 rfl) ?_
  refine k_new kc_1 (cells' := 43) (slots' := 254) X hS wt_1_230 wt_1_164 wt_1_10 rfl rfl (Nat.le_of_ble_eq_true rfl) (Nat.le_of_ble_eq_true rfl) dX7_init_38 (fun H hS => ?_)
  refine lv_dup hx hb dX7_init_41 rfl ?_
  refine lv_aload_n hx hb dX7_init_42 rfl (lv_at hl 2 rfl) ?_
  refine lv_aload_n hx hb dX7_init_43 rfl (lv_at hl 3 rfl) ?_
  refine k_call (As := [.ref a1, .ref a2]) (rest := [.ref (h0 + 43), .int 3, .ref (h0 + 1)]) (n' := 56) (cells' := 55) (slots' := 317) X hS (kX1_init l D cA (h0 + 43) (a1) (a2)) rfl rfl wt_1_232 wt_1_166 wt_1_10 wt_1_167 ⟨rfl, hy_X1_init⟩ ⟨rfl, rfl⟩ ⟨(Nat.le_of_ble_eq_true rfl), (Nat.le_of_ble_eq_true rfl)⟩ rfl hl.1 rfl (Nat.le_of_ble_eq_true rfl) dX7_init_44 rfl rfl rfl (Nat.le_of_ble_eq_true rfl) (Nat.le_of_ble_eq_true rfl) (fun H locs hS => ?_)
  refine k_aast (EC := "BenchTowels$Gym") (iN := 3) kc_1 4 1 43 rfl (Or.inl rfl) X hS (Nat.le_of_ble_eq_true rfl) rfl (Nat.le_of_ble_eq_true rfl) rfl (by decide) (vpc (by decide)) dX7_init_47 (fun H locs hS => ?_)
  refine lv_iinc (v := 4) hx hb dX7_init_48 hl (k := 0) rfl (by decide) (by decide) rfl (fun ls hl => ?_)
  have hl : lv_has ls 4 [(3, .int 4), (0, .ref h0), (1, .ref a1), (2, .ref a2)] := hl
  refine lv_goto (tgt := 28) hx hb dX7_init_51 (by decide) ?_
  refine lv_iload_n hx hb dX7_init_28 rfl (lv_at hl 0 rfl) ?_
  refine lv_iconst (v := 4) hx hb dX7_init_29 (by decide) ?_
  refine lv_icmp_gt (tgt := 54) hx hb dX7_init_30 (by decide) (fun c => absurd c (by decide)) (fun _ => ?_)
  refine lv_aload_n hx hb dX7_init_33 rfl (lv_at hl 1 rfl) ?_
  refine k_get (v := .ref (h0 + 1)) kc_7 0 0 X hS (Nat.le_of_ble_eq_true rfl) rfl (Nat.le_of_ble_eq_true rfl) wt_1_233 rfl dX7_init_34 ?_
  refine lv_iload_n hx hb dX7_init_37 rfl (lv_at hl 0 rfl) ?_
  refine k_new kc_1 (cells' := 56) (slots' := 330) X hS wt_1_230 wt_1_164 wt_1_10 rfl rfl (Nat.le_of_ble_eq_true rfl) (Nat.le_of_ble_eq_true rfl) dX7_init_38 (fun H hS => ?_)
  refine lv_dup hx hb dX7_init_41 rfl ?_
  refine lv_aload_n hx hb dX7_init_42 rfl (lv_at hl 2 rfl) ?_
  refine lv_aload_n hx hb dX7_init_43 rfl (lv_at hl 3 rfl) ?_
  refine k_call (As := [.ref a1, .ref a2]) (rest := [.ref (h0 + 56), .int 4, .ref (h0 + 1)]) (n' := 69) (cells' := 68) (slots' := 393) X hS (kX1_init l D cA (h0 + 56) (a1) (a2)) rfl rfl wt_1_232 wt_1_166 wt_1_10 wt_1_167 ⟨rfl, hy_X1_init⟩ ⟨rfl, rfl⟩ ⟨(Nat.le_of_ble_eq_true rfl), (Nat.le_of_ble_eq_true rfl)⟩ rfl hl.1 rfl (Nat.le_of_ble_eq_true rfl) dX7_init_44 rfl rfl rfl (Nat.le_of_ble_eq_true rfl) (Nat.le_of_ble_eq_true rfl) (fun H locs hS => ?_)
  refine k_aast (EC := "BenchTowels$Gym") (iN := 4) kc_1 4 1 56 rfl (Or.inl rfl) X hS (Nat.le_of_ble_eq_true rfl) rfl (Nat.le_of_ble_eq_true rfl) rfl (by decide) (vpc (by decide)) dX7_init_47 (fun H locs hS => ?_)
  refine lv_iinc (v := 5) hx hb dX7_init_48 hl (k := 0) rfl (by decide) (by decide) rfl (fun ls hl => ?_)
  have hl : lv_has ls 4 [(3, .int 5), (0, .ref h0), (1, .ref a1), (2, .ref a2)] := hl
  refine lv_goto (tgt := 28) hx hb dX7_init_51 (by decide) ?_
  refine lv_iload_n hx hb dX7_init_28 rfl (lv_at hl 0 rfl) ?_
  refine lv_iconst (v := 4) hx hb dX7_init_29 (by decide) ?_
  refine lv_icmp_gt (tgt := 54) hx hb dX7_init_30 (by decide) (fun _ => ?_) (fun c => absurd (by decide) c)
  exact k_ret X hr hlk hS (lt_all ⟨rfl, rfl, rfl, rfl, rfl, rfl, rfl, rfl, rfl, rfl, rfl, rfl, rfl, rfl, rfl, rfl, rfl, rfl, rfl, rfl, rfl, rfl, rfl, rfl, rfl, rfl, rfl, rfl, rfl, rfl, rfl, rfl, rfl, rfl, rfl, rfl, rfl, rfl, rfl, rfl, rfl, rfl, rfl, rfl, rfl, rfl, rfl, rfl, rfl, rfl, rfl, rfl, rfl, rfl, rfl, rfl, rfl, rfl, rfl, rfl, rfl, rfl, rfl, rfl, rfl, rfl, rfl, rfl, rfl, trivial⟩) dX7_init_54

def eX3_init (cA : Nat → ClassId) (h0 a1 : Nat) : Nat → va_E := fun k => ([.inr (3, [.ref a1, .ref (h0 + 1), .ref (h0 + 2), .ref (h0 + 3), .ref (h0 + 8), .ref (h0 + 9), .ref (h0 + 10), .int 0, .int 0, .int 0, .ref (h0 + 11), .int 0]),
  arI cA 4 (upd (upd (upd (upd (fun _ => 0) 0 (-1)) 1 (-1)) 2 (-1)) 3 (-1)),
  arI cA 4 (fun _ => 0),
  arQ (cA 2) 4 (fun j => if j < 4 then some (h0 + 3 + 1 + j) else none),
  arI cA 40 (fun _ => 0),
  arI cA 40 (fun _ => 0),
  arI cA 40 (fun _ => 0),
  arI cA 40 (fun _ => 0),
  arI cA 4 (upd (upd (upd (upd (fun _ => 0) 0 2) 1 2) 2 2) 3 2),
  arI cA 4 (fun _ => 0),
  arI cA 4 (fun _ => 0),
  arI cA 30 (fun _ => 0)] : List va_E).getD k (.inr (6, []))
set_option maxHeartbeats 4000000 in
set_option maxRecDepth 100000 in
theorem kX3_init (l : Launch) (D : va_G) (cA : Nat → ClassId) (h0 : Nat) (a1 : Nat) : Ctor l yX3_init cX3_init 2 { frames := 1, cells := 11, slots := 214, locals := 12 } D cA h0 [.ref a1] (.inr (3, fs0 12 tyX3)) 12 (eX3_init cA h0 a1) 11 214 := by
  refine ctor_of (by decide) rfl (Nat.le_of_ble_eq_true rfl) ?_
  intro p e s m0 below meth c ls X hi hr hlk hS hl
  generalize ([.ref h0, .ref a1] : List Value).toArray = args at X ⊢
  have hl : lv_has ls 2 [(0, .ref h0), (1, .ref a1)] := hl
  have X : CK D cA p s m0 args meth c "BenchTowels$Host" cX3_init 2 := X
  have hx := X.1
  have hb := X.2.1
  refine lv_aload_n hx hb dX3_init_0 rfl (lv_at hl 0 rfl) ?_
  refine k_obj X wt_2_43 hl.1 dX3_init_1 (Nat.le_of_ble_eq_true rfl) (Nat.le_of_ble_eq_true rfl) ?_
  refine lv_aload_n hx hb dX3_init_4 rfl (lv_at hl 0 rfl) ?_
  refine lv_iconst (v := 4) hx hb dX3_init_5 (by decide) ?_
  refine k_newi (N := 4) (cells' := 1) (slots' := 4) X hS wt_1_77 (by decide) (by decide) (Nat.le_of_ble_eq_true rfl) rfl rfl (Nat.le_of_ble_eq_true rfl) (Nat.le_of_ble_eq_true rfl) dX3_init_6 (fun H hS => ?_)
  refine lv_dup hx hb dX3_init_8 rfl ?_
  refine lv_iconst (v := 0) hx hb dX3_init_9 (by decide) ?_
  refine lv_iconst (v := (-1)) hx hb dX3_init_10 (by decide) ?_
  refine k_iast (k := 1) (iN := 0) X hS (Nat.le_of_ble_eq_true rfl) rfl (by decide) (vpc (by decide)) dX3_init_11 (fun H locs hS => ?_)
  refine lv_dup hx hb dX3_init_12 rfl ?_
  refine lv_iconst (v := 1) hx hb dX3_init_13 (by decide) ?_
  refine lv_iconst (v := (-1)) hx hb dX3_init_14 (by decide) ?_
  refine k_iast (k := 1) (iN := 1) X hS (Nat.le_of_ble_eq_true rfl) rfl (by decide) (vpc (by decide)) dX3_init_15 (fun H locs hS => ?_)
  refine lv_dup hx hb dX3_init_16 rfl ?_
  refine lv_iconst (v := 2) hx hb dX3_init_17 (by decide) ?_
  refine lv_iconst (v := (-1)) hx hb dX3_init_18 (by decide) ?_
  refine k_iast (k := 1) (iN := 2) X hS (Nat.le_of_ble_eq_true rfl) rfl (by decide) (vpc (by decide)) dX3_init_19 (fun H locs hS => ?_)
  refine lv_dup hx hb dX3_init_20 rfl ?_
  refine lv_iconst (v := 3) hx hb dX3_init_21 (by decide) ?_
  refine lv_iconst (v := (-1)) hx hb dX3_init_22 (by decide) ?_
  refine k_iast (k := 1) (iN := 3) X hS (Nat.le_of_ble_eq_true rfl) rfl (by decide) (vpc (by decide)) dX3_init_23 (fun H locs hS => ?_)
  refine k_put (ty := (.array .int)) kc_3 1 0 X hi hS (Nat.le_of_ble_eq_true rfl) rfl (Nat.le_of_ble_eq_true rfl) wt_2_46 rfl (by decide +kernel) rfl rfl (Nat.le_of_ble_eq_true rfl) dX3_init_24 (fun H locs hS => ?_)
  refine lv_aload_n hx hb dX3_init_27 rfl (lv_at hl 0 rfl) ?_
  refine lv_iconst (v := 4) hx hb dX3_init_28 (by decide) ?_
  refine k_newi (N := 4) (cells' := 2) (slots' := 8) X hS wt_1_77 (by decide) (by decide) (Nat.le_of_ble_eq_true rfl) rfl rfl (Nat.le_of_ble_eq_true rfl) (Nat.le_of_ble_eq_true rfl) dX3_init_29 (fun H hS => ?_)
  refine k_put (ty := (.array .int)) kc_3 2 0 X hi hS (Nat.le_of_ble_eq_true rfl) rfl (Nat.le_of_ble_eq_true rfl) wt_2_48 rfl (by decide +kernel) rfl rfl (Nat.le_of_ble_eq_true rfl) dX3_init_31 (fun H locs hS => ?_)
  refine lv_aload_n hx hb dX3_init_34 rfl (lv_at hl 0 rfl) ?_
  refine lv_iconst (v := 4) hx hb dX3_init_35 (by decide) ?_
  refine lv_bipush (v := 40) hx hb dX3_init_36 (by decide) ?_
  refine k_mna (N := 4) (K := 40) (n' := 8) (cells' := 7) (slots' := 172) X hS wt_2_44 wt_1_77 (by decide) (by decide) (Nat.le_of_ble_eq_true rfl) (Nat.le_of_ble_eq_true rfl) rfl rfl rfl (Nat.le_of_ble_eq_true rfl) (Nat.le_of_ble_eq_true rfl) dX3_init_38 (fun H locs hS => ?_)
  refine k_put (ty := (.array (.array .int))) kc_3 3 0 X hi hS (Nat.le_of_ble_eq_true rfl) rfl (Nat.le_of_ble_eq_true rfl) wt_2_49 rfl (by decide +kernel) rfl rfl (Nat.le_of_ble_eq_true rfl) dX3_init_42 (fun H locs hS => ?_)
  refine lv_aload_n hx hb dX3_init_45 rfl (lv_at hl 0 rfl) ?_
  refine lv_iconst (v := 4) hx hb dX3_init_46 (by decide) ?_
  refine k_newi (N := 4) (cells' := 8) (slots' := 176) X hS wt_1_77 (by decide) (by decide) (Nat.le_of_ble_eq_true rfl) rfl rfl (Nat.le_of_ble_eq_true rfl) (Nat.le_of_ble_eq_true rfl) dX3_init_47 (fun H hS => ?_)
  refine lv_dup hx hb dX3_init_49 rfl ?_
  refine lv_iconst (v := 0) hx hb dX3_init_50 (by decide) ?_
  refine lv_iconst (v := 2) hx hb dX3_init_51 (by decide) ?_
  refine k_iast (k := 8) (iN := 0) X hS (Nat.le_of_ble_eq_true rfl) rfl (by decide) (vpc (by decide)) dX3_init_52 (fun H locs hS => ?_)
  refine lv_dup hx hb dX3_init_53 rfl ?_
  refine lv_iconst (v := 1) hx hb dX3_init_54 (by decide) ?_
  refine lv_iconst (v := 2) hx hb dX3_init_55 (by decide) ?_
  refine k_iast (k := 8) (iN := 1) X hS (Nat.le_of_ble_eq_true rfl) rfl (by decide) (vpc (by decide)) dX3_init_56 (fun H locs hS => ?_)
  refine lv_dup hx hb dX3_init_57 rfl ?_
  refine lv_iconst (v := 2) hx hb dX3_init_58 (by decide) ?_
  refine lv_iconst (v := 2) hx hb dX3_init_59 (by decide) ?_
  refine k_iast (k := 8) (iN := 2) X hS (Nat.le_of_ble_eq_true rfl) rfl (by decide) (vpc (by decide)) dX3_init_60 (fun H locs hS => ?_)
  refine lv_dup hx hb dX3_init_61 rfl ?_
  refine lv_iconst (v := 3) hx hb dX3_init_62 (by decide) ?_
  refine lv_iconst (v := 2) hx hb dX3_init_63 (by decide) ?_
  refine k_iast (k := 8) (iN := 3) X hS (Nat.le_of_ble_eq_true rfl) rfl (by decide) (vpc (by decide)) dX3_init_64 (fun H locs hS => ?_)
  refine k_put (ty := (.array .int)) kc_3 4 0 X hi hS (Nat.le_of_ble_eq_true rfl) rfl (Nat.le_of_ble_eq_true rfl) wt_2_51 rfl (by decide +kernel) rfl rfl (Nat.le_of_ble_eq_true rfl) dX3_init_65 (fun H locs hS => ?_)
  refine lv_aload_n hx hb dX3_init_68 rfl (lv_at hl 0 rfl) ?_
  refine lv_iconst (v := 4) hx hb dX3_init_69 (by decide) ?_
  refine k_newi (N := 4) (cells' := 9) (slots' := 180) X hS wt_1_77 (by decide) (by decide) (Nat.le_of_ble_eq_true rfl) rfl rfl (Nat.le_of_ble_eq_true rfl) (Nat.le_of_ble_eq_true rfl) dX3_init_70 (fun H hS => ?_)
  refine k_put (ty := (.array .int)) kc_3 5 0 X hi hS (Nat.le_of_ble_eq_true rfl) rfl (Nat.le_of_ble_eq_true rfl) wt_2_53 rfl (by decide +kernel) rfl rfl (Nat.le_of_ble_eq_true rfl) dX3_init_72 (fun H locs hS => ?_)
  refine lv_aload_n hx hb dX3_init_75 rfl (lv_at hl 0 rfl) ?_
  refine lv_iconst (v := 4) hx hb dX3_init_76 (by decide) ?_
  refine k_newi (N := 4) (cells' := 10) (slots' := 184) X hS wt_1_77 (by decide) (by decide) (Nat.le_of_ble_eq_true rfl) rfl rfl (Nat.le_of_ble_eq_true rfl) (Nat.le_of_ble_eq_true rfl) dX3_init_77 (fun H hS => ?_)
  refine k_put (ty := (.array .int)) kc_3 6 0 X hi hS (Nat.le_of_ble_eq_true rfl) rfl (Nat.le_of_ble_eq_true rfl) wt_2_55 rfl (by decide +kernel) rfl rfl (Nat.le_of_ble_eq_true rfl) dX3_init_79 (fun H locs hS => ?_)
  refine lv_aload_n hx hb dX3_init_82 rfl (lv_at hl 0 rfl) ?_
  refine lv_bipush (v := 30) hx hb dX3_init_83 (by decide) ?_
  refine k_newi (N := 30) (cells' := 11) (slots' := 214) X hS wt_1_77 (by decide) (by decide) (Nat.le_of_ble_eq_true rfl) rfl rfl (Nat.le_of_ble_eq_true rfl) (Nat.le_of_ble_eq_true rfl) dX3_init_85 (fun H hS => ?_)
  refine k_put (ty := (.array .int)) kc_3 10 0 X hi hS (Nat.le_of_ble_eq_true rfl) rfl (Nat.le_of_ble_eq_true rfl) wt_2_66 rfl (by decide +kernel) rfl rfl (Nat.le_of_ble_eq_true rfl) dX3_init_87 (fun H locs hS => ?_)
  refine lv_aload_n hx hb dX3_init_90 rfl (lv_at hl 0 rfl) ?_
  refine lv_aload_n hx hb dX3_init_91 rfl (lv_at hl 1 rfl) ?_
  refine k_put (ty := (.array (.object "BenchTowels$Plain"))) kc_3 0 0 X hi hS (Nat.le_of_ble_eq_true rfl) rfl (Nat.le_of_ble_eq_true rfl) wt_2_45 rfl (by decide +kernel) rfl rfl (Nat.le_of_ble_eq_true rfl) dX3_init_92 (fun H locs hS => ?_)
  exact k_ret X hr hlk hS (lt_all ⟨rfl, rfl, rfl, rfl, rfl, rfl, rfl, rfl, rfl, rfl, rfl, rfl, trivial⟩) dX3_init_95

def eX11_init (cA : Nat → ClassId) (h0 : Nat) : Nat → va_E := fun k => ([.inr (11, [.ref (h0 + 1), .int 0, .ref (h0 + 2), .ref (h0 + 12), .ref (h0 + 22), .ref (h0 + 32), .ref (h0 + 36), .ref (h0 + 52), .ref (h0 + 65), .ref (h0 + 78), .ref (h0 + 91), .ref (h0 + 160), .ref (h0 + 40), .int 0, .int 0]),
  .inl (cA 1, 200, .inl (fun _ => 0)),
  .inr (8, [.int 0, .ref (h0 + 3), .ref (h0 + 4), .ref (h0 + 5), .ref (h0 + 6), .ref (h0 + 7), .ref (h0 + 8), .ref (h0 + 9), .int 0, .ref (h0 + 1), .ref (h0 + 10), .ref (h0 + 11), .int 0]),
  arI cA 8 (fun _ => 0),
  arI cA 8 (fun _ => 0),
  arI cA 8 (fun _ => 0),
  arI cA 8 (fun _ => 0),
  arI cA 200 (fun _ => 0),
  arI cA 200 (fun _ => 0),
  arI cA 200 (fun _ => 0),
  arI cA 201 (fun _ => 0),
  arI cA 201 (fun _ => 0),
  .inr (8, [.int 0, .ref (h0 + 13), .ref (h0 + 14), .ref (h0 + 15), .ref (h0 + 16), .ref (h0 + 17), .ref (h0 + 18), .ref (h0 + 19), .int 0, .ref (h0 + 1), .ref (h0 + 20), .ref (h0 + 21), .int 0]),
  arI cA 8 (fun _ => 0),
  arI cA 8 (fun _ => 0),
  arI cA 8 (fun _ => 0),
  arI cA 8 (fun _ => 0),
  arI cA 200 (fun _ => 0),
  arI cA 200 (fun _ => 0),
  arI cA 200 (fun _ => 0),
  arI cA 201 (fun _ => 0),
  arI cA 201 (fun _ => 0),
  .inr (8, [.int 0, .ref (h0 + 23), .ref (h0 + 24), .ref (h0 + 25), .ref (h0 + 26), .ref (h0 + 27), .ref (h0 + 28), .ref (h0 + 29), .int 0, .ref (h0 + 1), .ref (h0 + 30), .ref (h0 + 31), .int 0]),
  arI cA 8 (fun _ => 0),
  arI cA 8 (fun _ => 0),
  arI cA 8 (fun _ => 0),
  arI cA 8 (fun _ => 0),
  arI cA 200 (fun _ => 0),
  arI cA 200 (fun _ => 0),
  arI cA 200 (fun _ => 0),
  arI cA 201 (fun _ => 0),
  arI cA 201 (fun _ => 0),
  .inr (4, [.ref (h0 + 33), .ref (h0 + 34), .ref (h0 + 35), .int 0, .int 0, .int 0, .int 0, .int 0, .int 0]),
  arI cA 6 (fun _ => 0),
  arI cA 6 (fun _ => 0),
  arI cA 6 (fun _ => 0),
  .inr (4, [.ref (h0 + 37), .ref (h0 + 38), .ref (h0 + 39), .int 0, .int 0, .int 0, .int 0, .int 0, .int 0]),
  arI cA 6 (fun _ => 0),
  arI cA 6 (fun _ => 0),
  arI cA 6 (fun _ => 0),
  arQ (cA 2) 4 (fun j => if j < 4 then some (h0 + 40 + 1 + j) else none),
  arI cA 3 (fun _ => 0),
  arI cA 3 (fun _ => 0),
  arI cA 3 (fun _ => 0),
  arI cA 3 (fun _ => 0),
  arQ (cA 3) 6 (va_up (va_up (va_up (va_up (va_up (va_up (fun _ => none) 0 (some (h0 + 46))) 1 (some (h0 + 47))) 2 (some (h0 + 48))) 3 (some (h0 + 49))) 4 (some (h0 + 50))) 5 (some (h0 + 51))),
  .inr (6, []),
  .inr (0, []),
  .inr (9, []),
  .inr (5, []),
  .inr (2, []),
  .inr (10, []),
  .inr (1, [.ref (h0 + 45), .ref (h0 + 2), .ref (h0 + 53), .int 0, .ref (h0 + 59), .ref (h0 + 62), .int 0, .int 12, .int 0, .int 1, .int (-3), .ref (h0 + 63), .ref (h0 + 64)]),
  arQ (cA 2) 5 (fun j => if j < 5 then some ((h0 + 52) + 1 + 1 + j) else none),
  arI cA 6 (fun _ => 0),
  arI cA 6 (fun _ => 0),
  arI cA 6 (fun _ => 0),
  arI cA 6 (fun _ => 0),
  arI cA 6 (fun _ => 0),
  arQ (cA 2) 2 (fun j => if j < 2 then some ((h0 + 52) + 7 + 1 + j) else none),
  arI cA 6 (fun _ => 0),
  arI cA 6 (fun _ => 0),
  arI cA 3 (fun _ => 0),
  arI cA 5 (fun _ => 0),
  arI cA 6 (fun _ => 0),
  .inr (1, [.ref (h0 + 45), .ref (h0 + 22), .ref (h0 + 66), .int 0, .ref (h0 + 72), .ref (h0 + 75), .int 0, .int 12, .int 0, .int 1, .int (-3), .ref (h0 + 76), .ref (h0 + 77)]),
  arQ (cA 2) 5 (fun j => if j < 5 then some ((h0 + 65) + 1 + 1 + j) else none),
  arI cA 6 (fun _ => 0),
  arI cA 6 (fun _ => 0),
  arI cA 6 (fun _ => 0),
  arI cA 6 (fun _ => 0),
  arI cA 6 (fun _ => 0),
  arQ (cA 2) 2 (fun j => if j < 2 then some ((h0 + 65) + 7 + 1 + j) else none),
  arI cA 6 (fun _ => 0),
  arI cA 6 (fun _ => 0),
  arI cA 3 (fun _ => 0),
  arI cA 5 (fun _ => 0),
  arI cA 6 (fun _ => 0),
  .inr (1, [.ref (h0 + 45), .ref (h0 + 2), .ref (h0 + 79), .int 0, .ref (h0 + 85), .ref (h0 + 88), .int 0, .int 12, .int 0, .int 1, .int (-3), .ref (h0 + 89), .ref (h0 + 90)]),
  arQ (cA 2) 5 (fun j => if j < 5 then some ((h0 + 78) + 1 + 1 + j) else none),
  arI cA 6 (fun _ => 0),
  arI cA 6 (fun _ => 0),
  arI cA 6 (fun _ => 0),
  arI cA 6 (fun _ => 0),
  arI cA 6 (fun _ => 0),
  arQ (cA 2) 2 (fun j => if j < 2 then some ((h0 + 78) + 7 + 1 + j) else none),
  arI cA 6 (fun _ => 0),
  arI cA 6 (fun _ => 0),
  arI cA 3 (fun _ => 0),
  arI cA 5 (fun _ => 0),
  arI cA 6 (fun _ => 0),
  .inr (7, [.ref (h0 + 92), .ref (h0 + 93), .int 0, .int 0, .ref (h0 + 94), .int 0, .int 0, .int 0, .int 0, .int 0, .int 0, .int 0]),
  arQ (cA 4) 5 (va_up (va_up (va_up (va_up (va_up (fun _ => none) 0 (some ((h0 + 91) + 4))) 1 (some ((h0 + 91) + 17))) 2 (some ((h0 + 91) + 30))) 3 (some ((h0 + 91) + 43))) 4 (some ((h0 + 91) + 56))),
  arI cA 4 (fun _ => 0),
  arI cA 4 (fun _ => 0),
  .inr (1, [.ref (h0 + 45), .ref (h0 + 2), .ref (h0 + 96), .int 0, .ref (h0 + 102), .ref (h0 + 105), .int 0, .int 12, .int 0, .int 1, .int (-3), .ref (h0 + 106), .ref (h0 + 107)]),
  arQ (cA 2) 5 (fun j => if j < 5 then some (((h0 + 91) + 4) + 1 + 1 + j) else none),
  arI cA 6 (fun _ => 0),
  arI cA 6 (fun _ => 0),
  arI cA 6 (fun _ => 0),
  arI cA 6 (fun _ => 0),
  arI cA 6 (fun _ => 0),
  arQ (cA 2) 2 (fun j => if j < 2 then some (((h0 + 91) + 4) + 7 + 1 + j) else none),
  arI cA 6 (fun _ => 0),
  arI cA 6 (fun _ => 0),
  arI cA 3 (fun _ => 0),
  arI cA 5 (fun _ => 0),
  arI cA 6 (fun _ => 0),
  .inr (1, [.ref (h0 + 45), .ref (h0 + 2), .ref (h0 + 109), .int 0, .ref (h0 + 115), .ref (h0 + 118), .int 0, .int 12, .int 0, .int 1, .int (-3), .ref (h0 + 119), .ref (h0 + 120)]),
  arQ (cA 2) 5 (fun j => if j < 5 then some (((h0 + 91) + 17) + 1 + 1 + j) else none),
  arI cA 6 (fun _ => 0),
  arI cA 6 (fun _ => 0),
  arI cA 6 (fun _ => 0),
  arI cA 6 (fun _ => 0),
  arI cA 6 (fun _ => 0),
  arQ (cA 2) 2 (fun j => if j < 2 then some (((h0 + 91) + 17) + 7 + 1 + j) else none),
  arI cA 6 (fun _ => 0),
  arI cA 6 (fun _ => 0),
  arI cA 3 (fun _ => 0),
  arI cA 5 (fun _ => 0),
  arI cA 6 (fun _ => 0),
  .inr (1, [.ref (h0 + 45), .ref (h0 + 2), .ref (h0 + 122), .int 0, .ref (h0 + 128), .ref (h0 + 131), .int 0, .int 12, .int 0, .int 1, .int (-3), .ref (h0 + 132), .ref (h0 + 133)]),
  arQ (cA 2) 5 (fun j => if j < 5 then some (((h0 + 91) + 30) + 1 + 1 + j) else none),
  arI cA 6 (fun _ => 0),
  arI cA 6 (fun _ => 0),
  arI cA 6 (fun _ => 0),
  arI cA 6 (fun _ => 0),
  arI cA 6 (fun _ => 0),
  arQ (cA 2) 2 (fun j => if j < 2 then some (((h0 + 91) + 30) + 7 + 1 + j) else none),
  arI cA 6 (fun _ => 0),
  arI cA 6 (fun _ => 0),
  arI cA 3 (fun _ => 0),
  arI cA 5 (fun _ => 0),
  arI cA 6 (fun _ => 0),
  .inr (1, [.ref (h0 + 45), .ref (h0 + 2), .ref (h0 + 135), .int 0, .ref (h0 + 141), .ref (h0 + 144), .int 0, .int 12, .int 0, .int 1, .int (-3), .ref (h0 + 145), .ref (h0 + 146)]),
  arQ (cA 2) 5 (fun j => if j < 5 then some (((h0 + 91) + 43) + 1 + 1 + j) else none),
  arI cA 6 (fun _ => 0),
  arI cA 6 (fun _ => 0),
  arI cA 6 (fun _ => 0),
  arI cA 6 (fun _ => 0),
  arI cA 6 (fun _ => 0),
  arQ (cA 2) 2 (fun j => if j < 2 then some (((h0 + 91) + 43) + 7 + 1 + j) else none),
  arI cA 6 (fun _ => 0),
  arI cA 6 (fun _ => 0),
  arI cA 3 (fun _ => 0),
  arI cA 5 (fun _ => 0),
  arI cA 6 (fun _ => 0),
  .inr (1, [.ref (h0 + 45), .ref (h0 + 2), .ref (h0 + 148), .int 0, .ref (h0 + 154), .ref (h0 + 157), .int 0, .int 12, .int 0, .int 1, .int (-3), .ref (h0 + 158), .ref (h0 + 159)]),
  arQ (cA 2) 5 (fun j => if j < 5 then some (((h0 + 91) + 56) + 1 + 1 + j) else none),
  arI cA 6 (fun _ => 0),
  arI cA 6 (fun _ => 0),
  arI cA 6 (fun _ => 0),
  arI cA 6 (fun _ => 0),
  arI cA 6 (fun _ => 0),
  arQ (cA 2) 2 (fun j => if j < 2 then some (((h0 + 91) + 56) + 7 + 1 + j) else none),
  arI cA 6 (fun _ => 0),
  arI cA 6 (fun _ => 0),
  arI cA 3 (fun _ => 0),
  arI cA 5 (fun _ => 0),
  arI cA 6 (fun _ => 0),
  .inr (3, [.ref (h0 + 45), .ref (h0 + 161), .ref (h0 + 162), .ref (h0 + 163), .ref (h0 + 168), .ref (h0 + 169), .ref (h0 + 170), .int 0, .int 0, .int 0, .ref (h0 + 171), .int 0]),
  arI cA 4 (upd (upd (upd (upd (fun _ => 0) 0 (-1)) 1 (-1)) 2 (-1)) 3 (-1)),
  arI cA 4 (fun _ => 0),
  arQ (cA 2) 4 (fun j => if j < 4 then some ((h0 + 160) + 3 + 1 + j) else none),
  arI cA 40 (fun _ => 0),
  arI cA 40 (fun _ => 0),
  arI cA 40 (fun _ => 0),
  arI cA 40 (fun _ => 0),
  arI cA 4 (upd (upd (upd (upd (fun _ => 0) 0 2) 1 2) 2 2) 3 2),
  arI cA 4 (fun _ => 0),
  arI cA 4 (fun _ => 0),
  arI cA 30 (fun _ => 0)] : List va_E).getD k (.inr (6, []))
set_option maxHeartbeats 4000000 in
set_option maxRecDepth 100000 in
theorem kX11_init (l : Launch) (D : va_G) (cA : Nat → ClassId) (h0 : Nat) : Ctor l yX11_init cX11_init 2 { frames := 4, cells := 171, slots := 4276, locals := 72 } D cA h0 [] (.inr (11, fs0 15 tyX11)) 172 (eX11_init cA h0) 171 4276 := by
  refine ctor_of (by decide) rfl (Nat.le_of_ble_eq_true rfl) ?_
  intro p e s m0 below meth c ls X hi hr hlk hS hl
  generalize ([.ref h0] : List Value).toArray = args at X ⊢
  have hl : lv_has ls 2 [(0, .ref h0)] := hl
  have X : CK D cA p s m0 args meth c "BenchTowels" cX11_init 2 := X
  have hx := X.1
  have hb := X.2.1
  refine lv_aload_n hx hb dX11_init_0 rfl (lv_at hl 0 rfl) ?_
  refine k_obj X wt_1_26 hl.1 dX11_init_1 (Nat.le_of_ble_eq_true rfl) (Nat.le_of_ble_eq_true rfl) ?_
  refine lv_aload_n hx hb dX11_init_4 rfl (lv_at hl 0 rfl) ?_
  refine lv_sipush (v := 200) hx hb dX11_init_5 (by decide) ?_
  refine k_newb (N := 200) (cells' := 1) (slots' := 200) X hS wt_1_76 (by decide) (by decide) (Nat.le_of_ble_eq_true rfl) rfl rfl (Nat.le_of_ble_eq_true rfl) (Nat.le_of_ble_eq_true rfl) dX11_init_8 (fun H hS => ?_)
  refine k_put (ty := (.array .byte)) kc_11 0 0 X hi hS (Nat.le_of_ble_eq_true rfl) rfl (Nat.le_of_ble_eq_true rfl) wt_2_95 rfl (by decide +kernel) rfl rfl (Nat.le_of_ble_eq_true rfl) dX11_init_10 (fun H locs hS => ?_)
  refine lv_aload_n hx hb dX11_init_13 rfl (lv_at hl 0 rfl) ?_
  refine k_new kc_8 (cells' := 2) (slots' := 213) X hS wt_1_29 wt_1_30 wt_1_2 rfl rfl (Nat.le_of_ble_eq_true rfl) (Nat.le_of_ble_eq_true rfl) dX11_init_14 (fun H hS => ?_)
  refine lv_dup hx hb dX11_init_17 rfl ?_
  refine lv_aload_n hx hb dX11_init_18 rfl (lv_at hl 0 rfl) ?_
  refine k_get (v := .ref (h0 + 1)) kc_11 0 0 X hS (Nat.le_of_ble_eq_true rfl) rfl (Nat.le_of_ble_eq_true rfl) wt_2_95 rfl dX11_init_19 ?_
  refine k_call (As := [.ref (h0 + 1)]) (rest := [.ref (h0 + 2), .ref h0]) (n' := 12) (cells' := 11) (slots' := 1247) X hS (kX8_init l D cA (h0 + 2) ((h0 + 1))) rfl rfl wt_1_31 wt_1_32 wt_1_2 wt_1_33 ⟨rfl, hy_X8_init⟩ ⟨rfl, rfl⟩ ⟨(Nat.le_of_ble_eq_true rfl), (Nat.le_of_ble_eq_true rfl)⟩ rfl hl.1 rfl (Nat.le_of_ble_eq_true rfl) dX11_init_22 rfl rfl rfl (Nat.le_of_ble_eq_true rfl) (Nat.le_of_ble_eq_true rfl) (fun H locs hS => ?_)
  refine k_put (ty := (.object "BenchTowels$Rules")) kc_11 2 0 X hi hS (Nat.le_of_ble_eq_true rfl) rfl (Nat.le_of_ble_eq_true rfl) wt_2_97 rfl (by decide +kernel) rfl rfl (Nat.le_of_ble_eq_true rfl) dX11_init_25 (fun H locs hS => ?_)
  refine lv_aload_n hx hb dX11_init_28 rfl (lv_at hl 0 rfl) ?_
  refine k_new kc_8 (cells' := 12) (slots' := 1260) X hS wt_1_29 wt_1_30 wt_1_2 rfl rfl (Nat.le_of_ble_eq_true rfl) (Nat.le_of_ble_eq_true rfl) dX11_init_29 (fun H hS => ?_)
  refine lv_dup hx hb dX11_init_32 rfl ?_
  refine lv_aload_n hx hb dX11_init_33 rfl (lv_at hl 0 rfl) ?_
  refine k_get (v := .ref (h0 + 1)) kc_11 0 0 X hS (Nat.le_of_ble_eq_true rfl) rfl (Nat.le_of_ble_eq_true rfl) wt_2_95 rfl dX11_init_34 ?_
  refine k_call (As := [.ref (h0 + 1)]) (rest := [.ref (h0 + 12), .ref h0]) (n' := 22) (cells' := 21) (slots' := 2294) X hS (kX8_init l D cA (h0 + 12) ((h0 + 1))) rfl rfl wt_1_31 wt_1_32 wt_1_2 wt_1_33 ⟨rfl, hy_X8_init⟩ ⟨rfl, rfl⟩ ⟨(Nat.le_of_ble_eq_true rfl), (Nat.le_of_ble_eq_true rfl)⟩ rfl hl.1 rfl (Nat.le_of_ble_eq_true rfl) dX11_init_37 rfl rfl rfl (Nat.le_of_ble_eq_true rfl) (Nat.le_of_ble_eq_true rfl) (fun H locs hS => ?_)
  refine k_put (ty := (.object "BenchTowels$Rules")) kc_11 3 0 X hi hS (Nat.le_of_ble_eq_true rfl) rfl (Nat.le_of_ble_eq_true rfl) wt_2_98 rfl (by decide +kernel) rfl rfl (Nat.le_of_ble_eq_true rfl) dX11_init_40 (fun H locs hS => ?_)
  refine lv_aload_n hx hb dX11_init_43 rfl (lv_at hl 0 rfl) ?_
  refine k_new kc_8 (cells' := 22) (slots' := 2307) X hS wt_1_29 wt_1_30 wt_1_2 rfl rfl (Nat.le_of_ble_eq_true rfl) (Nat.le_of_ble_eq_true rfl) dX11_init_44 (fun H hS => ?_)
  refine lv_dup hx hb dX11_init_47 rfl ?_
  refine lv_aload_n hx hb dX11_init_48 rfl (lv_at hl 0 rfl) ?_
  refine k_get (v := .ref (h0 + 1)) kc_11 0 0 X hS (Nat.le_of_ble_eq_true rfl) rfl (Nat.le_of_ble_eq_true rfl) wt_2_95 rfl dX11_init_49 ?_
  refine k_call (As := [.ref (h0 + 1)]) (rest := [.ref (h0 + 22), .ref h0]) (n' := 32) (cells' := 31) (slots' := 3341) X hS (kX8_init l D cA (h0 + 22) ((h0 + 1))) rfl rfl wt_1_31 wt_1_32 wt_1_2 wt_1_33 ⟨rfl, hy_X8_init⟩ ⟨rfl, rfl⟩ ⟨(Nat.le_of_ble_eq_true rfl), (Nat.le_of_ble_eq_true rfl)⟩ rfl hl.1 rfl (Nat.le_of_ble_eq_true rfl) dX11_init_52 rfl rfl rfl (Nat.le_of_ble_eq_true rfl) (Nat.le_of_ble_eq_true rfl) (fun H locs hS => ?_)
  refine k_put (ty := (.object "BenchTowels$Rules")) kc_11 4 0 X hi hS (Nat.le_of_ble_eq_true rfl) rfl (Nat.le_of_ble_eq_true rfl) wt_2_99 rfl (by decide +kernel) rfl rfl (Nat.le_of_ble_eq_true rfl) dX11_init_55 (fun H locs hS => ?_)
  refine lv_aload_n hx hb dX11_init_58 rfl (lv_at hl 0 rfl) ?_
  refine k_new kc_4 (cells' := 32) (slots' := 3350) X hS wt_1_78 wt_1_79 wt_1_3 rfl rfl (Nat.le_of_ble_eq_true rfl) (Nat.le_of_ble_eq_true rfl) dX11_init_59 (fun H hS => ?_)
  refine lv_dup hx hb dX11_init_62 rfl ?_
  refine k_callN (As := []) (rest := [.ref (h0 + 32), .ref h0]) (n' := 36) (cells' := 35) (slots' := 3368) X hS (kX4_init l D cA (h0 + 32) ) rfl rfl (List.mem_of_getElem? (i := 0) rfl) wt_1_81 wt_1_3 wt_1_82 ⟨rfl, hy_X4_init⟩ ⟨rfl, rfl⟩ ⟨(Nat.le_of_ble_eq_true rfl), (Nat.le_of_ble_eq_true rfl)⟩ rfl hl.1 rfl (Nat.le_of_ble_eq_true rfl) dX11_init_63 rfl rfl rfl (Nat.le_of_ble_eq_true rfl) (Nat.le_of_ble_eq_true rfl) (fun H locs hS => ?_)
  refine k_put (ty := (.object "BenchTowels$Men")) kc_11 5 0 X hi hS (Nat.le_of_ble_eq_true rfl) rfl (Nat.le_of_ble_eq_true rfl) wt_2_100 rfl (by decide +kernel) rfl rfl (Nat.le_of_ble_eq_true rfl) dX11_init_66 (fun H locs hS => ?_)
  refine lv_aload_n hx hb dX11_init_69 rfl (lv_at hl 0 rfl) ?_
  refine k_new kc_4 (cells' := 36) (slots' := 3377) X hS wt_1_78 wt_1_79 wt_1_3 rfl rfl (Nat.le_of_ble_eq_true rfl) (Nat.le_of_ble_eq_true rfl) dX11_init_70 (fun H hS => ?_)
  refine lv_dup hx hb dX11_init_73 rfl ?_
  refine k_callN (As := []) (rest := [.ref (h0 + 36), .ref h0]) (n' := 40) (cells' := 39) (slots' := 3395) X hS (kX4_init l D cA (h0 + 36) ) rfl rfl (List.mem_of_getElem? (i := 0) rfl) wt_1_81 wt_1_3 wt_1_82 ⟨rfl, hy_X4_init⟩ ⟨rfl, rfl⟩ ⟨(Nat.le_of_ble_eq_true rfl), (Nat.le_of_ble_eq_true rfl)⟩ rfl hl.1 rfl (Nat.le_of_ble_eq_true rfl) dX11_init_74 rfl rfl rfl (Nat.le_of_ble_eq_true rfl) (Nat.le_of_ble_eq_true rfl) (fun H locs hS => ?_)
  refine k_put (ty := (.object "BenchTowels$Men")) kc_11 6 0 X hi hS (Nat.le_of_ble_eq_true rfl) rfl (Nat.le_of_ble_eq_true rfl) wt_2_101 rfl (by decide +kernel) rfl rfl (Nat.le_of_ble_eq_true rfl) dX11_init_77 (fun H locs hS => ?_)
  refine lv_aload_n hx hb dX11_init_80 rfl (lv_at hl 0 rfl) ?_
  refine lv_iconst (v := 4) hx hb dX11_init_81 (by decide) ?_
  refine lv_iconst (v := 3) hx hb dX11_init_82 (by decide) ?_
  refine k_mna (N := 4) (K := 3) (n' := 45) (cells' := 44) (slots' := 3411) X hS wt_1_118 wt_1_77 (by decide) (by decide) (Nat.le_of_ble_eq_true rfl) (Nat.le_of_ble_eq_true rfl) rfl rfl rfl (Nat.le_of_ble_eq_true rfl) (Nat.le_of_ble_eq_true rfl) dX11_init_83 (fun H locs hS => ?_)
  refine k_put (ty := (.array (.array .int))) kc_11 12 0 X hi hS (Nat.le_of_ble_eq_true rfl) rfl (Nat.le_of_ble_eq_true rfl) wt_2_107 rfl (by decide +kernel) rfl rfl (Nat.le_of_ble_eq_true rfl) dX11_init_87 (fun H locs hS => ?_)
  refine lv_bipush (v := 6) hx hb dX11_init_90 (by decide) ?_
  refine k_anew (t := 3) (N := 6) (cells' := 45) (slots' := 3417) rfl X.2.2.2.2.2.2.2.2.1 X hS wt_1_120 (by decide) (by decide) (Nat.le_of_ble_eq_true rfl) rfl rfl (Nat.le_of_ble_eq_true rfl) (Nat.le_of_ble_eq_true rfl) dX11_init_92 (fun H hS => ?_)
  refine lv_dup hx hb dX11_init_95 rfl ?_
  refine lv_iconst (v := 0) hx hb dX11_init_96 (by decide) ?_
  refine k_new kc_6 (cells' := 46) (slots' := 3417) X hS wt_1_120 wt_1_122 wt_1_4 rfl rfl (Nat.le_of_ble_eq_true rfl) (Nat.le_of_ble_eq_true rfl) dX11_init_97 (fun H hS => ?_)
  refine lv_dup hx hb dX11_init_100 rfl ?_
  refine k_callN (As := []) (rest := [.ref (h0 + 46), .int 0, .ref (h0 + 45), .ref (h0 + 45)]) (n' := 47) (cells' := 46) (slots' := 3417) X hS (kX6_init l D cA (h0 + 46) (.inr (6, fs0 0 tyX6))) rfl rfl (List.mem_of_getElem? (i := 1) rfl) wt_1_124 wt_1_4 wt_1_125 ⟨rfl, hy_X6_init⟩ ⟨rfl, rfl⟩ ⟨(Nat.le_of_ble_eq_true rfl), (Nat.le_of_ble_eq_true rfl)⟩ rfl hl.1 rfl (Nat.le_of_ble_eq_true rfl) dX11_init_101 rfl rfl rfl (Nat.le_of_ble_eq_true rfl) (Nat.le_of_ble_eq_true rfl) (fun H locs hS => ?_)
  refine k_aast (EC := "BenchTowels$Plain") (iN := 0) kc_6 3 45 46 rfl (Or.inl rfl) X hS (Nat.le_of_ble_eq_true rfl) rfl (Nat.le_of_ble_eq_true rfl) rfl (by decide) (vpc (by decide)) dX11_init_104 (fun H locs hS => ?_)
  refine lv_dup hx hb dX11_init_105 rfl ?_
  refine lv_iconst (v := 1) hx hb dX11_init_106 (by decide) ?_
  refine k_new kc_0 (cells' := 47) (slots' := 3417) X hS wt_1_128 wt_1_129 wt_1_5 rfl rfl (Nat.le_of_ble_eq_true rfl) (Nat.le_of_ble_eq_true rfl) dX11_init_107 (fun H hS => ?_)
  refine lv_dup hx hb dX11_init_110 rfl ?_
  refine k_callN (As := []) (rest := [.ref (h0 + 47), .int 1, .ref (h0 + 45), .ref (h0 + 45)]) (n' := 48) (cells' := 47) (slots' := 3417) X hS (kX0_init l D cA (h0 + 47) (.inr (0, fs0 0 tyX0))) rfl rfl (List.mem_of_getElem? (i := 2) rfl) wt_1_131 wt_1_5 wt_1_132 ⟨rfl, hy_X0_init⟩ ⟨rfl, rfl⟩ ⟨(Nat.le_of_ble_eq_true rfl), (Nat.le_of_ble_eq_true rfl)⟩ rfl hl.1 rfl (Nat.le_of_ble_eq_true rfl) dX11_init_111 rfl rfl rfl (Nat.le_of_ble_eq_true rfl) (Nat.le_of_ble_eq_true rfl) (fun H locs hS => ?_)
  refine k_aast (EC := "BenchTowels$Plain") (iN := 1) kc_0 3 45 47 rfl (Or.inr (X.2.2.2.2.2.2.2.1 _ (List.mem_of_getElem? (i := 0) rfl))) X hS (Nat.le_of_ble_eq_true rfl) rfl (Nat.le_of_ble_eq_true rfl) rfl (by decide) (vpc (by decide)) dX11_init_114 (fun H locs hS => ?_)
  refine lv_dup hx hb dX11_init_115 rfl ?_
  refine lv_iconst (v := 2) hx hb dX11_init_116 (by decide) ?_
  refine k_new kc_9 (cells' := 48) (slots' := 3417) X hS wt_1_135 wt_1_136 wt_1_6 rfl rfl (Nat.le_of_ble_eq_true rfl) (Nat.le_of_ble_eq_true rfl) dX11_init_117 (fun H hS => ?_)
  refine lv_dup hx hb dX11_init_120 rfl ?_
  refine k_callN (As := []) (rest := [.ref (h0 + 48), .int 2, .ref (h0 + 45), .ref (h0 + 45)]) (n' := 49) (cells' := 48) (slots' := 3417) X hS (kX9_init l D cA (h0 + 48) (.inr (9, fs0 0 tyX9))) rfl rfl (List.mem_of_getElem? (i := 3) rfl) wt_1_138 wt_1_6 wt_1_139 ⟨rfl, hy_X9_init⟩ ⟨rfl, rfl⟩ ⟨(Nat.le_of_ble_eq_true rfl), (Nat.le_of_ble_eq_true rfl)⟩ rfl hl.1 rfl (Nat.le_of_ble_eq_true rfl) dX11_init_121 rfl rfl rfl (Nat.le_of_ble_eq_true rfl) (Nat.le_of_ble_eq_true rfl) (fun H locs hS => ?_)
  refine k_aast (EC := "BenchTowels$Plain") (iN := 2) kc_9 3 45 48 rfl (Or.inr (X.2.2.2.2.2.2.2.1 _ (List.mem_of_getElem? (i := 1) rfl))) X hS (Nat.le_of_ble_eq_true rfl) rfl (Nat.le_of_ble_eq_true rfl) rfl (by decide) (vpc (by decide)) dX11_init_124 (fun H locs hS => ?_)
  refine lv_dup hx hb dX11_init_125 rfl ?_
  refine lv_iconst (v := 3) hx hb dX11_init_126 (by decide) ?_
  refine k_new kc_5 (cells' := 49) (slots' := 3417) X hS wt_1_142 wt_1_143 wt_1_7 rfl rfl (Nat.le_of_ble_eq_true rfl) (Nat.le_of_ble_eq_true rfl) dX11_init_127 (fun H hS => ?_)
  refine lv_dup hx hb dX11_init_130 rfl ?_
  refine k_callN (As := []) (rest := [.ref (h0 + 49), .int 3, .ref (h0 + 45), .ref (h0 + 45)]) (n' := 50) (cells' := 49) (slots' := 3417) X hS (kX5_init l D cA (h0 + 49) (.inr (5, fs0 0 tyX5))) rfl rfl (List.mem_of_getElem? (i := 4) rfl) wt_1_145 wt_1_7 wt_1_146 ⟨rfl, hy_X5_init⟩ ⟨rfl, rfl⟩ ⟨(Nat.le_of_ble_eq_true rfl), (Nat.le_of_ble_eq_true rfl)⟩ rfl hl.1 rfl (Nat.le_of_ble_eq_true rfl) dX11_init_131 rfl rfl rfl (Nat.le_of_ble_eq_true rfl) (Nat.le_of_ble_eq_true rfl) (fun H locs hS => ?_)
  refine k_aast (EC := "BenchTowels$Plain") (iN := 3) kc_5 3 45 49 rfl (Or.inr (X.2.2.2.2.2.2.2.1 _ (List.mem_of_getElem? (i := 2) rfl))) X hS (Nat.le_of_ble_eq_true rfl) rfl (Nat.le_of_ble_eq_true rfl) rfl (by decide) (vpc (by decide)) dX11_init_134 (fun H locs hS => ?_)
  refine lv_dup hx hb dX11_init_135 rfl ?_
  refine lv_iconst (v := 4) hx hb dX11_init_136 (by decide) ?_
  refine k_new kc_2 (cells' := 50) (slots' := 3417) X hS wt_1_149 wt_1_150 wt_1_8 rfl rfl (Nat.le_of_ble_eq_true rfl) (Nat.le_of_ble_eq_true rfl) dX11_init_137 (fun H hS => ?_)
  refine lv_dup hx hb dX11_init_140 rfl ?_
  refine k_callN (As := []) (rest := [.ref (h0 + 50), .int 4, .ref (h0 + 45), .ref (h0 + 45)]) (n' := 51) (cells' := 50) (slots' := 3417) X hS (kX2_init l D cA (h0 + 50) (.inr (2, fs0 0 tyX2))) rfl rfl (List.mem_of_getElem? (i := 5) rfl) wt_1_152 wt_1_8 wt_1_153 ⟨rfl, hy_X2_init⟩ ⟨rfl, rfl⟩ ⟨(Nat.le_of_ble_eq_true rfl), (Nat.le_of_ble_eq_true rfl)⟩ rfl hl.1 rfl (Nat.le_of_ble_eq_true rfl) dX11_init_141 rfl rfl rfl (Nat.le_of_ble_eq_true rfl) (Nat.le_of_ble_eq_true rfl) (fun H locs hS => ?_)
  refine k_aast (EC := "BenchTowels$Plain") (iN := 4) kc_2 3 45 50 rfl (Or.inr (X.2.2.2.2.2.2.2.1 _ (List.mem_of_getElem? (i := 3) rfl))) X hS (Nat.le_of_ble_eq_true rfl) rfl (Nat.le_of_ble_eq_true rfl) rfl (by decide) (vpc (by decide)) dX11_init_144 (fun H locs hS => ?_)
  refine lv_dup hx hb dX11_init_145 rfl ?_
  refine lv_iconst (v := 5) hx hb dX11_init_146 (by decide) ?_
  refine k_new kc_10 (cells' := 51) (slots' := 3417) X hS wt_1_156 wt_1_157 wt_1_9 rfl rfl (Nat.le_of_ble_eq_true rfl) (Nat.le_of_ble_eq_true rfl) dX11_init_147 (fun H hS => ?_)
  refine lv_dup hx hb dX11_init_150 rfl ?_
  refine k_callN (As := []) (rest := [.ref (h0 + 51), .int 5, .ref (h0 + 45), .ref (h0 + 45)]) (n' := 52) (cells' := 51) (slots' := 3417) X hS (kX10_init l D cA (h0 + 51) (.inr (10, fs0 0 tyX10))) rfl rfl (List.mem_of_getElem? (i := 6) rfl) wt_1_159 wt_1_9 wt_1_160 ⟨rfl, hy_X10_init⟩ ⟨rfl, rfl⟩ ⟨(Nat.le_of_ble_eq_true rfl), (Nat.le_of_ble_eq_true rfl)⟩ rfl hl.1 rfl (Nat.le_of_ble_eq_true rfl) dX11_init_151 rfl rfl rfl (Nat.le_of_ble_eq_true rfl) (Nat.le_of_ble_eq_true rfl) (fun H locs hS => ?_)
  refine k_aast (EC := "BenchTowels$Plain") (iN := 5) kc_10 3 45 51 rfl (Or.inr (X.2.2.2.2.2.2.2.1 _ (List.mem_of_getElem? (i := 4) rfl))) X hS (Nat.le_of_ble_eq_true rfl) rfl (Nat.le_of_ble_eq_true rfl) rfl (by decide) (vpc (by decide)) dX11_init_154 (fun H locs hS => ?_)
  refine lv_astore_n hx hb dX11_init_155 rfl hl (by decide) rfl (fun ls hl => ?_)
  have hl : lv_has ls 2 [(1, .ref (h0 + 45)), (0, .ref h0)] := hl
  refine lv_aload_n hx hb dX11_init_156 rfl (lv_at hl 1 rfl) ?_
  refine k_new kc_1 (cells' := 52) (slots' := 3430) X hS wt_1_163 wt_1_164 wt_1_10 rfl rfl (Nat.le_of_ble_eq_true rfl) (Nat.le_of_ble_eq_true rfl) dX11_init_157 (fun H hS => ?_)
  refine lv_dup hx hb dX11_init_160 rfl ?_
  refine lv_aload_n hx hb dX11_init_161 rfl (lv_at hl 0 rfl) ?_
  refine lv_aload_n hx hb dX11_init_162 rfl (lv_at hl 1 rfl) ?_
  refine k_get (v := .ref (h0 + 2)) kc_11 2 0 X hS (Nat.le_of_ble_eq_true rfl) rfl (Nat.le_of_ble_eq_true rfl) wt_2_97 rfl dX11_init_163 ?_
  refine k_call (As := [.ref (h0 + 45), .ref (h0 + 2)]) (rest := [.ref (h0 + 52), .ref h0]) (n' := 65) (cells' := 64) (slots' := 3493) X hS (kX1_init l D cA (h0 + 52) ((h0 + 45)) ((h0 + 2))) rfl rfl wt_1_165 wt_1_166 wt_1_10 wt_1_167 ⟨rfl, hy_X1_init⟩ ⟨rfl, rfl⟩ ⟨(Nat.le_of_ble_eq_true rfl), (Nat.le_of_ble_eq_true rfl)⟩ rfl hl.1 rfl (Nat.le_of_ble_eq_true rfl) dX11_init_166 rfl rfl rfl (Nat.le_of_ble_eq_true rfl) (Nat.le_of_ble_eq_true rfl) (fun H locs hS => ?_)
  refine k_put (ty := (.object "BenchTowels$Gym")) kc_11 7 0 X hi hS (Nat.le_of_ble_eq_true rfl) rfl (Nat.le_of_ble_eq_true rfl) wt_2_102 rfl (by decide +kernel) rfl rfl (Nat.le_of_ble_eq_true rfl) dX11_init_169 (fun H locs hS => ?_)
  refine lv_aload_n hx hb dX11_init_172 rfl (lv_at hl 1 rfl) ?_
  refine k_new kc_1 (cells' := 65) (slots' := 3506) X hS wt_1_163 wt_1_164 wt_1_10 rfl rfl (Nat.le_of_ble_eq_true rfl) (Nat.le_of_ble_eq_true rfl) dX11_init_173 (fun H hS => ?_)
  refine lv_dup hx hb dX11_init_176 rfl ?_
  refine lv_aload_n hx hb dX11_init_177 rfl (lv_at hl 0 rfl) ?_
  refine lv_aload_n hx hb dX11_init_178 rfl (lv_at hl 1 rfl) ?_
  refine k_get (v := .ref (h0 + 22)) kc_11 4 0 X hS (Nat.le_of_ble_eq_true rfl) rfl (Nat.le_of_ble_eq_true rfl) wt_2_99 rfl dX11_init_179 ?_
  refine k_call (As := [.ref (h0 + 45), .ref (h0 + 22)]) (rest := [.ref (h0 + 65), .ref h0]) (n' := 78) (cells' := 77) (slots' := 3569) X hS (kX1_init l D cA (h0 + 65) ((h0 + 45)) ((h0 + 22))) rfl rfl wt_1_165 wt_1_166 wt_1_10 wt_1_167 ⟨rfl, hy_X1_init⟩ ⟨rfl, rfl⟩ ⟨(Nat.le_of_ble_eq_true rfl), (Nat.le_of_ble_eq_true rfl)⟩ rfl hl.1 rfl (Nat.le_of_ble_eq_true rfl) dX11_init_182 rfl rfl rfl (Nat.le_of_ble_eq_true rfl) (Nat.le_of_ble_eq_true rfl) (fun H locs hS => ?_)
  refine k_put (ty := (.object "BenchTowels$Gym")) kc_11 8 0 X hi hS (Nat.le_of_ble_eq_true rfl) rfl (Nat.le_of_ble_eq_true rfl) wt_2_103 rfl (by decide +kernel) rfl rfl (Nat.le_of_ble_eq_true rfl) dX11_init_185 (fun H locs hS => ?_)
  refine lv_aload_n hx hb dX11_init_188 rfl (lv_at hl 1 rfl) ?_
  refine k_new kc_1 (cells' := 78) (slots' := 3582) X hS wt_1_163 wt_1_164 wt_1_10 rfl rfl (Nat.le_of_ble_eq_true rfl) (Nat.le_of_ble_eq_true rfl) dX11_init_189 (fun H hS => ?_)
  refine lv_dup hx hb dX11_init_192 rfl ?_
  refine lv_aload_n hx hb dX11_init_193 rfl (lv_at hl 0 rfl) ?_
  refine lv_aload_n hx hb dX11_init_194 rfl (lv_at hl 1 rfl) ?_
  refine k_get (v := .ref (h0 + 2)) kc_11 2 0 X hS (Nat.le_of_ble_eq_true rfl) rfl (Nat.le_of_ble_eq_true rfl) wt_2_97 rfl dX11_init_195 ?_
  refine k_call (As := [.ref (h0 + 45), .ref (h0 + 2)]) (rest := [.ref (h0 + 78), .ref h0]) (n' := 91) (cells' := 90) (slots' := 3645) X hS (kX1_init l D cA (h0 + 78) ((h0 + 45)) ((h0 + 2))) rfl rfl wt_1_165 wt_1_166 wt_1_10 wt_1_167 ⟨rfl, hy_X1_init⟩ ⟨rfl, rfl⟩ ⟨(Nat.le_of_ble_eq_true rfl), (Nat.le_of_ble_eq_true rfl)⟩ rfl hl.1 rfl (Nat.le_of_ble_eq_true rfl) dX11_init_198 rfl rfl rfl (Nat.le_of_ble_eq_true rfl) (Nat.le_of_ble_eq_true rfl) (fun H locs hS => ?_)
  refine k_put (ty := (.object "BenchTowels$Gym")) kc_11 9 0 X hi hS (Nat.le_of_ble_eq_true rfl) rfl (Nat.le_of_ble_eq_true rfl) wt_2_104 rfl (by decide +kernel) rfl rfl (Nat.le_of_ble_eq_true rfl) dX11_init_201 (fun H locs hS => ?_)
  refine lv_aload_n hx hb dX11_init_204 rfl (lv_at hl 1 rfl) ?_
  refine k_new kc_7 (cells' := 91) (slots' := 3657) X hS wt_1_224 wt_1_225 wt_1_11 rfl rfl (Nat.le_of_ble_eq_true rfl) (Nat.le_of_ble_eq_true rfl) dX11_init_205 (fun H hS => ?_)
  refine lv_dup hx hb dX11_init_208 rfl ?_
  refine lv_aload_n hx hb dX11_init_209 rfl (lv_at hl 0 rfl) ?_
  refine lv_aload_n hx hb dX11_init_210 rfl (lv_at hl 1 rfl) ?_
  refine k_get (v := .ref (h0 + 2)) kc_11 2 0 X hS (Nat.le_of_ble_eq_true rfl) rfl (Nat.le_of_ble_eq_true rfl) wt_2_97 rfl dX11_init_211 ?_
  refine k_call (As := [.ref (h0 + 45), .ref (h0 + 2)]) (rest := [.ref (h0 + 91), .ref h0]) (n' := 160) (cells' := 159) (slots' := 4050) X hS (kX7_init l D cA (h0 + 91) ((h0 + 45)) ((h0 + 2))) rfl rfl wt_1_226 wt_1_227 wt_1_11 wt_1_228 ⟨rfl, hy_X7_init⟩ ⟨rfl, rfl⟩ ⟨(Nat.le_of_ble_eq_true rfl), (Nat.le_of_ble_eq_true rfl)⟩ rfl hl.1 rfl (Nat.le_of_ble_eq_true rfl) dX11_init_214 rfl rfl rfl (Nat.le_of_ble_eq_true rfl) (Nat.le_of_ble_eq_true rfl) (fun H locs hS => ?_)
  refine k_put (ty := (.object "BenchTowels$Plans")) kc_11 10 0 X hi hS (Nat.le_of_ble_eq_true rfl) rfl (Nat.le_of_ble_eq_true rfl) wt_2_105 rfl (by decide +kernel) rfl rfl (Nat.le_of_ble_eq_true rfl) dX11_init_217 (fun H locs hS => ?_)
  refine lv_aload_n hx hb dX11_init_220 rfl (lv_at hl 1 rfl) ?_
  refine k_new kc_3 (cells' := 160) (slots' := 4062) X hS wt_2_38 wt_2_39 wt_1_12 rfl rfl (Nat.le_of_ble_eq_true rfl) (Nat.le_of_ble_eq_true rfl) dX11_init_221 (fun H hS => ?_)
  refine lv_dup hx hb dX11_init_224 rfl ?_
  refine lv_aload_n hx hb dX11_init_225 rfl (lv_at hl 0 rfl) ?_
  refine k_call (As := [.ref (h0 + 45)]) (rest := [.ref (h0 + 160), .ref h0]) (n' := 172) (cells' := 171) (slots' := 4276) X hS (kX3_init l D cA (h0 + 160) ((h0 + 45))) rfl rfl wt_2_40 wt_2_41 wt_1_12 wt_2_42 ⟨rfl, hy_X3_init⟩ ⟨rfl, rfl⟩ ⟨(Nat.le_of_ble_eq_true rfl), (Nat.le_of_ble_eq_true rfl)⟩ rfl hl.1 rfl (Nat.le_of_ble_eq_true rfl) dX11_init_226 rfl rfl rfl (Nat.le_of_ble_eq_true rfl) (Nat.le_of_ble_eq_true rfl) (fun H locs hS => ?_)
  refine k_put (ty := (.object "BenchTowels$Host")) kc_11 11 0 X hi hS (Nat.le_of_ble_eq_true rfl) rfl (Nat.le_of_ble_eq_true rfl) wt_2_106 rfl (by decide +kernel) rfl rfl (Nat.le_of_ble_eq_true rfl) dX11_init_229 (fun H locs hS => ?_)
  exact k_ret X hr hlk hS (lt_all ⟨rfl, rfl, rfl, rfl, rfl, rfl, rfl, rfl, rfl, rfl, rfl, rfl, rfl, rfl, rfl, rfl, rfl, rfl, rfl, rfl, rfl, rfl, rfl, rfl, rfl, rfl, rfl, rfl, rfl, rfl, rfl, rfl, rfl, rfl, rfl, rfl, rfl, rfl, rfl, rfl, rfl, rfl, rfl, rfl, rfl, rfl, rfl, rfl, rfl, rfl, rfl, rfl, rfl, rfl, rfl, rfl, rfl, rfl, rfl, rfl, rfl, rfl, rfl, rfl, rfl, rfl, rfl, rfl, rfl, rfl, rfl, rfl, rfl, rfl, rfl, rfl, rfl, rfl, rfl, rfl, rfl, rfl, rfl, rfl, rfl, rfl, rfl, rfl, rfl, rfl, rfl, rfl, rfl, rfl, rfl, rfl, rfl, rfl, rfl, rfl, rfl, rfl, rfl, rfl, rfl, rfl, rfl, rfl, rfl, rfl, rfl, rfl, rfl, rfl, rfl, rfl, rfl, rfl, rfl, rfl, rfl, rfl, rfl, rfl, rfl, rfl, rfl, rfl, rfl, rfl, rfl, rfl, rfl, rfl, rfl, rfl, rfl, rfl, rfl, rfl, rfl, rfl, rfl, rfl, rfl, rfl, rfl, rfl, rfl, rfl, rfl, rfl, rfl, rfl, rfl, rfl, rfl, rfl, rfl, rfl, rfl, rfl, rfl, rfl, rfl, rfl, rfl, rfl, rfl, rfl, rfl, rfl, trivial⟩) dX11_init_232

def eX12_init (cA : Nat → ClassId) (h0 : Nat) : Nat → va_E := fun k => ([.inr (12, [.ref (h0 + 1), .ref (h0 + 2), .int 0, .ref (h0 + 3), .ref (h0 + 4), .int 0, .int 0, .int 0, .int 0, .int 0, .int 0, .int 0, .ref (h0 + 5), .int 0, .ref (h0 + 6), .ref (h0 + 7), .int 0, .int 0, .int 0, .int 0, .int 0, .int 0, .int 0, .int 0, .int 0, .ref (h0 + 8), .int 0, .ref (h0 + 9), .ref (h0 + 10), .ref (h0 + 11), .ref (h0 + 12), .ref (h0 + 13), .ref (h0 + 14), .ref (h0 + 15), .int 0, .int 0, .int 0, .int 0, .int 0]),
  arI cA 553 (upd (upd (fun _ => 0) 2 12) 4 1),
  arI cA 553 (fun _ => 0),
  arI cA 235 (fun _ => 0),
  arI cA 200 (fun _ => 0),
  arI cA 553 (fun _ => 0),
  arI cA 4 (fun _ => 0),
  arI cA 4 (fun _ => 0),
  arI cA 12 (fun _ => 0),
  arI cA 4 (upd (upd (upd (upd (fun _ => 0) 0 (-1)) 1 (-1)) 2 (-1)) 3 (-1)),
  arI cA 4 (fun _ => 0),
  arI cA 160 (fun _ => 0),
  arI cA 4 (fun _ => 0),
  arI cA 4 (fun _ => 0),
  arI cA 4 (fun _ => 0),
  arI cA 30 (fun _ => 0)] : List va_E).getD k (.inr (6, []))
set_option maxHeartbeats 4000000 in
set_option maxRecDepth 100000 in
theorem kX12_init (l : Launch) (D : va_G) (cA : Nat → ClassId) (h0 : Nat) : Ctor l yX12_init cX12_init 1 { frames := 1, cells := 15, slots := 2324, locals := 12 } D cA h0 [] (.inr (12, fs0 39 tyX12)) 16 (eX12_init cA h0) 15 2324 := by
  refine ctor_of (by decide) rfl (Nat.le_of_ble_eq_true rfl) ?_
  intro p e s m0 below meth c ls X hi hr hlk hS hl
  generalize ([.ref h0] : List Value).toArray = args at X ⊢
  have hl : lv_has ls 1 [(0, .ref h0)] := hl
  have X : CK D cA p s m0 args meth c "BenchTowelsModel" cX12_init 1 := X
  have hx := X.1
  have hb := X.2.1
  refine lv_aload_n hx hb dX12_init_0 rfl (lv_at hl 0 rfl) ?_
  refine k_obj X wt_5_171 hl.1 dX12_init_1 (Nat.le_of_ble_eq_true rfl) (Nat.le_of_ble_eq_true rfl) ?_
  refine lv_aload_n hx hb dX12_init_4 rfl (lv_at hl 0 rfl) ?_
  refine lv_sipush (v := 553) hx hb dX12_init_5 (by decide) ?_
  refine k_newi (N := 553) (cells' := 1) (slots' := 553) X hS wt_1_77 (by decide) (by decide) (Nat.le_of_ble_eq_true rfl) rfl rfl (Nat.le_of_ble_eq_true rfl) (Nat.le_of_ble_eq_true rfl) dX12_init_8 (fun H hS => ?_)
  refine k_put (ty := (.array .int)) kc_12 0 0 X hi hS (Nat.le_of_ble_eq_true rfl) rfl (Nat.le_of_ble_eq_true rfl) wt_5_172 rfl (by decide +kernel) rfl rfl (Nat.le_of_ble_eq_true rfl) dX12_init_10 (fun H locs hS => ?_)
  refine lv_aload_n hx hb dX12_init_13 rfl (lv_at hl 0 rfl) ?_
  refine lv_sipush (v := 553) hx hb dX12_init_14 (by decide) ?_
  refine k_newi (N := 553) (cells' := 2) (slots' := 1106) X hS wt_1_77 (by decide) (by decide) (Nat.le_of_ble_eq_true rfl) rfl rfl (Nat.le_of_ble_eq_true rfl) (Nat.le_of_ble_eq_true rfl) dX12_init_17 (fun H hS => ?_)
  refine k_put (ty := (.array .int)) kc_12 1 0 X hi hS (Nat.le_of_ble_eq_true rfl) rfl (Nat.le_of_ble_eq_true rfl) wt_5_173 rfl (by decide +kernel) rfl rfl (Nat.le_of_ble_eq_true rfl) dX12_init_19 (fun H locs hS => ?_)
  refine lv_aload_n hx hb dX12_init_22 rfl (lv_at hl 0 rfl) ?_
  refine lv_sipush (v := 235) hx hb dX12_init_23 (by decide) ?_
  refine k_newi (N := 235) (cells' := 3) (slots' := 1341) X hS wt_1_77 (by decide) (by decide) (Nat.le_of_ble_eq_true rfl) rfl rfl (Nat.le_of_ble_eq_true rfl) (Nat.le_of_ble_eq_true rfl) dX12_init_26 (fun H hS => ?_)
  refine k_put (ty := (.array .int)) kc_12 3 0 X hi hS (Nat.le_of_ble_eq_true rfl) rfl (Nat.le_of_ble_eq_true rfl) wt_5_175 rfl (by decide +kernel) rfl rfl (Nat.le_of_ble_eq_true rfl) dX12_init_28 (fun H locs hS => ?_)
  refine lv_aload_n hx hb dX12_init_31 rfl (lv_at hl 0 rfl) ?_
  refine lv_sipush (v := 200) hx hb dX12_init_32 (by decide) ?_
  refine k_newi (N := 200) (cells' := 4) (slots' := 1541) X hS wt_1_77 (by decide) (by decide) (Nat.le_of_ble_eq_true rfl) rfl rfl (Nat.le_of_ble_eq_true rfl) (Nat.le_of_ble_eq_true rfl) dX12_init_35 (fun H hS => ?_)
  refine k_put (ty := (.array .int)) kc_12 4 0 X hi hS (Nat.le_of_ble_eq_true rfl) rfl (Nat.le_of_ble_eq_true rfl) wt_5_176 rfl (by decide +kernel) rfl rfl (Nat.le_of_ble_eq_true rfl) dX12_init_37 (fun H locs hS => ?_)
  refine lv_aload_n hx hb dX12_init_40 rfl (lv_at hl 0 rfl) ?_
  refine lv_sipush (v := 553) hx hb dX12_init_41 (by decide) ?_
  refine k_newi (N := 553) (cells' := 5) (slots' := 2094) X hS wt_1_77 (by decide) (by decide) (Nat.le_of_ble_eq_true rfl) rfl rfl (Nat.le_of_ble_eq_true rfl) (Nat.le_of_ble_eq_true rfl) dX12_init_44 (fun H hS => ?_)
  refine k_put (ty := (.array .int)) kc_12 12 0 X hi hS (Nat.le_of_ble_eq_true rfl) rfl (Nat.le_of_ble_eq_true rfl) wt_5_184 rfl (by decide +kernel) rfl rfl (Nat.le_of_ble_eq_true rfl) dX12_init_46 (fun H locs hS => ?_)
  refine lv_aload_n hx hb dX12_init_49 rfl (lv_at hl 0 rfl) ?_
  refine lv_iconst (v := 4) hx hb dX12_init_50 (by decide) ?_
  refine k_newi (N := 4) (cells' := 6) (slots' := 2098) X hS wt_1_77 (by decide) (by decide) (Nat.le_of_ble_eq_true rfl) rfl rfl (Nat.le_of_ble_eq_true rfl) (Nat.le_of_ble_eq_true rfl) dX12_init_51 (fun H hS => ?_)
  refine k_put (ty := (.array .int)) kc_12 14 0 X hi hS (Nat.le_of_ble_eq_true rfl) rfl (Nat.le_of_ble_eq_true rfl) wt_5_186 rfl (by decide +kernel) rfl rfl (Nat.le_of_ble_eq_true rfl) dX12_init_53 (fun H locs hS => ?_)
  refine lv_aload_n hx hb dX12_init_56 rfl (lv_at hl 0 rfl) ?_
  refine lv_iconst (v := 4) hx hb dX12_init_57 (by decide) ?_
  refine k_newi (N := 4) (cells' := 7) (slots' := 2102) X hS wt_1_77 (by decide) (by decide) (Nat.le_of_ble_eq_true rfl) rfl rfl (Nat.le_of_ble_eq_true rfl) (Nat.le_of_ble_eq_true rfl) dX12_init_58 (fun H hS => ?_)
  refine k_put (ty := (.array .int)) kc_12 15 0 X hi hS (Nat.le_of_ble_eq_true rfl) rfl (Nat.le_of_ble_eq_true rfl) wt_5_187 rfl (by decide +kernel) rfl rfl (Nat.le_of_ble_eq_true rfl) dX12_init_60 (fun H locs hS => ?_)
  refine lv_aload_n hx hb dX12_init_63 rfl (lv_at hl 0 rfl) ?_
  refine lv_bipush (v := 12) hx hb dX12_init_64 (by decide) ?_
  refine k_newi (N := 12) (cells' := 8) (slots' := 2114) X hS wt_1_77 (by decide) (by decide) (Nat.le_of_ble_eq_true rfl) rfl rfl (Nat.le_of_ble_eq_true rfl) (Nat.le_of_ble_eq_true rfl) dX12_init_66 (fun H hS => ?_)
  refine k_put (ty := (.array .int)) kc_12 25 0 X hi hS (Nat.le_of_ble_eq_true rfl) rfl (Nat.le_of_ble_eq_true rfl) wt_5_197 rfl (by decide +kernel) rfl rfl (Nat.le_of_ble_eq_true rfl) dX12_init_68 (fun H locs hS => ?_)
  refine lv_aload_n hx hb dX12_init_71 rfl (lv_at hl 0 rfl) ?_
  refine lv_iconst (v := 4) hx hb dX12_init_72 (by decide) ?_
  refine k_newi (N := 4) (cells' := 9) (slots' := 2118) X hS wt_1_77 (by decide) (by decide) (Nat.le_of_ble_eq_true rfl) rfl rfl (Nat.le_of_ble_eq_true rfl) (Nat.le_of_ble_eq_true rfl) dX12_init_73 (fun H hS => ?_)
  refine lv_dup hx hb dX12_init_75 rfl ?_
  refine lv_iconst (v := 0) hx hb dX12_init_76 (by decide) ?_
  refine lv_iconst (v := (-1)) hx hb dX12_init_77 (by decide) ?_
  refine k_iast (k := 9) (iN := 0) X hS (Nat.le_of_ble_eq_true rfl) rfl (by decide) (vpc (by decide)) dX12_init_78 (fun H locs hS => ?_)
  refine lv_dup hx hb dX12_init_79 rfl ?_
  refine lv_iconst (v := 1) hx hb dX12_init_80 (by decide) ?_
  refine lv_iconst (v := (-1)) hx hb dX12_init_81 (by decide) ?_
  refine k_iast (k := 9) (iN := 1) X hS (Nat.le_of_ble_eq_true rfl) rfl (by decide) (vpc (by decide)) dX12_init_82 (fun H locs hS => ?_)
  refine lv_dup hx hb dX12_init_83 rfl ?_
  refine lv_iconst (v := 2) hx hb dX12_init_84 (by decide) ?_
  refine lv_iconst (v := (-1)) hx hb dX12_init_85 (by decide) ?_
  refine k_iast (k := 9) (iN := 2) X hS (Nat.le_of_ble_eq_true rfl) rfl (by decide) (vpc (by decide)) dX12_init_86 (fun H locs hS => ?_)
  refine lv_dup hx hb dX12_init_87 rfl ?_
  refine lv_iconst (v := 3) hx hb dX12_init_88 (by decide) ?_
  refine lv_iconst (v := (-1)) hx hb dX12_init_89 (by decide) ?_
  refine k_iast (k := 9) (iN := 3) X hS (Nat.le_of_ble_eq_true rfl) rfl (by decide) (vpc (by decide)) dX12_init_90 (fun H locs hS => ?_)
  refine k_put (ty := (.array .int)) kc_12 27 0 X hi hS (Nat.le_of_ble_eq_true rfl) rfl (Nat.le_of_ble_eq_true rfl) wt_5_199 rfl (by decide +kernel) rfl rfl (Nat.le_of_ble_eq_true rfl) dX12_init_91 (fun H locs hS => ?_)
  refine lv_aload_n hx hb dX12_init_94 rfl (lv_at hl 0 rfl) ?_
  refine lv_iconst (v := 4) hx hb dX12_init_95 (by decide) ?_
  refine k_newi (N := 4) (cells' := 10) (slots' := 2122) X hS wt_1_77 (by decide) (by decide) (Nat.le_of_ble_eq_true rfl) rfl rfl (Nat.le_of_ble_eq_true rfl) (Nat.le_of_ble_eq_true rfl) dX12_init_96 (fun H hS => ?_)
  refine k_put (ty := (.array .int)) kc_12 28 0 X hi hS (Nat.le_of_ble_eq_true rfl) rfl (Nat.le_of_ble_eq_true rfl) wt_5_200 rfl (by decide +kernel) rfl rfl (Nat.le_of_ble_eq_true rfl) dX12_init_98 (fun H locs hS => ?_)
  refine lv_aload_n hx hb dX12_init_101 rfl (lv_at hl 0 rfl) ?_
  refine lv_sipush (v := 160) hx hb dX12_init_102 (by decide) ?_
  refine k_newi (N := 160) (cells' := 11) (slots' := 2282) X hS wt_1_77 (by decide) (by decide) (Nat.le_of_ble_eq_true rfl) rfl rfl (Nat.le_of_ble_eq_true rfl) (Nat.le_of_ble_eq_true rfl) dX12_init_105 (fun H hS => ?_)
  refine k_put (ty := (.array .int)) kc_12 29 0 X hi hS (Nat.le_of_ble_eq_true rfl) rfl (Nat.le_of_ble_eq_true rfl) wt_5_201 rfl (by decide +kernel) rfl rfl (Nat.le_of_ble_eq_true rfl) dX12_init_107 (fun H locs hS => ?_)
  refine lv_aload_n hx hb dX12_init_110 rfl (lv_at hl 0 rfl) ?_
  refine lv_iconst (v := 4) hx hb dX12_init_111 (by decide) ?_
  refine k_newi (N := 4) (cells' := 12) (slots' := 2286) X hS wt_1_77 (by decide) (by decide) (Nat.le_of_ble_eq_true rfl) rfl rfl (Nat.le_of_ble_eq_true rfl) (Nat.le_of_ble_eq_true rfl) dX12_init_112 (fun H hS => ?_)
  refine k_put (ty := (.array .int)) kc_12 30 0 X hi hS (Nat.le_of_ble_eq_true rfl) rfl (Nat.le_of_ble_eq_true rfl) wt_5_202 rfl (by decide +kernel) rfl rfl (Nat.le_of_ble_eq_true rfl) dX12_init_114 (fun H locs hS => ?_)
  refine lv_aload_n hx hb dX12_init_117 rfl (lv_at hl 0 rfl) ?_
  refine lv_iconst (v := 4) hx hb dX12_init_118 (by decide) ?_
  refine k_newi (N := 4) (cells' := 13) (slots' := 2290) X hS wt_1_77 (by decide) (by decide) (Nat.le_of_ble_eq_true rfl) rfl rfl (Nat.le_of_ble_eq_true rfl) (Nat.le_of_ble_eq_true rfl) dX12_init_119 (fun H hS => ?_)
  refine k_put (ty := (.array .int)) kc_12 31 0 X hi hS (Nat.le_of_ble_eq_true rfl) rfl (Nat.le_of_ble_eq_true rfl) wt_5_203 rfl (by decide +kernel) rfl rfl (Nat.le_of_ble_eq_true rfl) dX12_init_121 (fun H locs hS => ?_)
  refine lv_aload_n hx hb dX12_init_124 rfl (lv_at hl 0 rfl) ?_
  refine lv_iconst (v := 4) hx hb dX12_init_125 (by decide) ?_
  refine k_newi (N := 4) (cells' := 14) (slots' := 2294) X hS wt_1_77 (by decide) (by decide) (Nat.le_of_ble_eq_true rfl) rfl rfl (Nat.le_of_ble_eq_true rfl) (Nat.le_of_ble_eq_true rfl) dX12_init_126 (fun H hS => ?_)
  refine k_put (ty := (.array .int)) kc_12 32 0 X hi hS (Nat.le_of_ble_eq_true rfl) rfl (Nat.le_of_ble_eq_true rfl) wt_5_204 rfl (by decide +kernel) rfl rfl (Nat.le_of_ble_eq_true rfl) dX12_init_128 (fun H locs hS => ?_)
  refine lv_aload_n hx hb dX12_init_131 rfl (lv_at hl 0 rfl) ?_
  refine lv_bipush (v := 30) hx hb dX12_init_132 (by decide) ?_
  refine k_newi (N := 30) (cells' := 15) (slots' := 2324) X hS wt_1_77 (by decide) (by decide) (Nat.le_of_ble_eq_true rfl) rfl rfl (Nat.le_of_ble_eq_true rfl) (Nat.le_of_ble_eq_true rfl) dX12_init_134 (fun H hS => ?_)
  refine k_put (ty := (.array .int)) kc_12 33 0 X hi hS (Nat.le_of_ble_eq_true rfl) rfl (Nat.le_of_ble_eq_true rfl) wt_5_205 rfl (by decide +kernel) rfl rfl (Nat.le_of_ble_eq_true rfl) dX12_init_136 (fun H locs hS => ?_)
  refine lv_aload_n hx hb dX12_init_139 rfl (lv_at hl 0 rfl) ?_
  refine k_get (v := .ref (h0 + 1)) kc_12 0 0 X hS (Nat.le_of_ble_eq_true rfl) rfl (Nat.le_of_ble_eq_true rfl) wt_5_172 rfl dX12_init_140 ?_
  refine lv_iconst (v := 2) hx hb dX12_init_143 (by decide) ?_
  refine lv_bipush (v := 12) hx hb dX12_init_144 (by decide) ?_
  refine k_iast (k := 1) (iN := 2) X hS (Nat.le_of_ble_eq_true rfl) rfl (by decide) (vpc (by decide)) dX12_init_146 (fun H locs hS => ?_)
  refine lv_aload_n hx hb dX12_init_147 rfl (lv_at hl 0 rfl) ?_
  refine k_get (v := .ref (h0 + 1)) kc_12 0 0 X hS (Nat.le_of_ble_eq_true rfl) rfl (Nat.le_of_ble_eq_true rfl) wt_5_172 rfl dX12_init_148 ?_
  refine lv_iconst (v := 4) hx hb dX12_init_151 (by decide) ?_
  refine lv_iconst (v := 1) hx hb dX12_init_152 (by decide) ?_
  refine k_iast (k := 1) (iN := 4) X hS (Nat.le_of_ble_eq_true rfl) rfl (by decide) (vpc (by decide)) dX12_init_153 (fun H locs hS => ?_)
  exact k_ret X hr hlk hS (lt_all ⟨rfl, rfl, rfl, rfl, rfl, rfl, rfl, rfl, rfl, rfl, rfl, rfl, rfl, rfl, rfl, rfl, trivial⟩) dX12_init_154

