/-! the law's loop: rows -/
def LX (D : va_G) (cA : Nat → ClassId) (st : Nat → Nat) (p : Program) (s : State) (m : MethodId) (c : Code) (b L : Nat) (xs : Nat → Int32) : Prop :=
  p.tables.exec = Jvm.exec ∧ c.code = code ∧ c.maxLocals = 4 ∧ s.vm.findClass "BenchTowelsLaw" = some m.cls ∧ (∀ w ∈ WL, w.before #[Value.ref b] s = true) ∧ va_K D vwCl (tysOf cA) s ∧ SF cN (aC s.heap.size st) s s.heap ∧ SF rN (aR (s.heap.size + 172) st) s s.heap ∧ va_X b L xs s s.heap ∧ b < s.heap.size
def Old (s : State) (H : Heap) : Prop := s.heap.size ≤ H.size ∧ ∀ q, q < s.heap.size → H[q]? = s.heap[q]?
def LSt (D : va_G) (cA : Nat → ClassId) (s : State) (st : Nat → Nat) (mc mr : Mm) (H : Heap) : Prop :=
  Old s H ∧ va_P D vwCl (wsOf cLay cN cA (aC s.heap.size st) mc) H ∧ va_P D vwCl (wsOf rLay rN cA (aR (s.heap.size + 172) st) mr) H ∧ RR mc mr
abbrev lvL (s : State) (st : Nat → Nat) (b i : Nat) : List (Nat × Value) := [(3, .int (nI i)), (2, .ref (aR (s.heap.size + 172) st 0)), (1, .ref (aC s.heap.size st 0)), (0, .ref b)]
section LR
variable {p : Program} {l : Launch} {e : Env} {s : State} {m : MethodId} {below : List Frame} {meth : Method} {c : Code} {H : Heap} {Q : State → Prop}
variable {D : va_G} {cA : Nat → ClassId} {st : Nat → Nat} {b L i pc : Nat} {xs : Nat → Int32} {ls : Array Slot} {rest : List Value} {mc mr mc1 mr1 : Mm}
theorem l_arg {jn : Nat} {jI : Int} (X : LX D cA st p s m c b L xs) (hO : Old s H) (hl : lv_has ls 4 (lvL s st b i)) (hi : i + 5 ≤ L) (hL : L ≤ 2560) (hj : jn < 5) (d1 : decode cL_law pc = .ok (.aload_n 0, 1)) (d2 : decode cL_law (pc + 1) = .ok (.iload_n 3, 1)) (d3 : decode cL_law (pc + 2) = .ok (.iconst jI, 1)) (hv : Int32.ofInt jI = nI jn) (d4 : decode cL_law (pc + 3) = .ok (.iadd, 1)) (d5 : decode cL_law (pc + 4) = .ok (.iaload, 1))
    (kk : W p l e room_1 s m #[Value.ref b] below meth c H [] 188 6654 Q (F0 m (pc + 5) ls (.int (xs (i + jn)) :: rest))) : W p l e room_1 s m #[Value.ref b] below meth c H [] 188 6654 Q (F0 m pc ls rest) := by
  obtain ⟨hx, hb, hml, hown, hts, hK, h1, h2, hX, hbl⟩ := X
  refine lv_aload_n hx hb d1 rfl (lv_at hl 3 rfl) ?_
  refine lv_iload_n hx hb d2 rfl (lv_at hl 0 rfl) ?_
  refine lv_iconst (v := nI jn) hx hb d3 hv ?_
  refine lv_iadd hx hb d4 ?_
  rw [nI_add]
  have e : (nI (i + jn)).toNatClampNeg = i + jn := nI_clamp (by omega)
  refine va_sld (A := fun q => s.heap.size ≤ q) (H0 := s.heap) (locs := []) hx hb hX hbl (Nat.not_le.mpr hbl) ⟨hO.1, fun q h _ => hO.2 q h, fun _ h => by cases h⟩ (fun q => ?_) d5 ?_
  · rcases q with h | h
    · exact nI_pos (by omega) h
    · omega
  · rw [e]
    exact kk
theorem l_V {lay : Lay} {N : Nat} {A : Nat → Nat} {mm mm1 : Mm} {idx n ci nf : Nat} {y : MethodName} {cc' : ByteArray} {nL' : Nat} {rm : Room} {As st0 : List Value} {C : String} {T : u_T} {fs : List Value} {r : Int32}
    (X : LX D cA st p s m c b L xs) (hSF : SF N A s s.heap) (hz : ∀ q, AW N A q → s.heap.size ≤ q) (hO : Old s H) (hP : va_P D vwCl (wsOf lay N cA A mm) H) (hM : Met0 l y cc' nL' (some .int) rm lay N D cA A (.ref (A 0) :: As) mm (some (.int r)) mm1) (hN : 0 < N) (hL : lay cA A 0 (mm 0) = .inr (ci, fs)) (hc : vwCl[ci]? = some (C, T, nf))
    (w1 : Cond.methodLink "BenchTowelsLaw" idx y ∈ WL) (w2 : Cond.instanceMethod y ∈ WL) (w3 : Cond.selects C y y ∈ WL) (w4 : Cond.initialized C ∈ WL) (w5 : Cond.code y cc' nL' (some .int) ∈ WL)
    (hy : y.cls = C ∧ y.cls ≠ "java/lang/invoke/MethodHandle" ∧ y.cls ≠ "java/lang/invoke/VarHandle" ∧ (parseMethodDescriptor y.desc).map (fun d => d.parameters.length) = some n) (hrm : rm.cells = 0 ∧ rm.slots = 0) (hR : rm.frames + 1 ≤ 2048 ∧ 8 + (nL' + 11) + rm.locals ≤ 84000)
    (hn : As.length = n) (hs : ls.size = 4) (hst : st0 = As.reverse ++ .ref (A 0) :: rest) (hW : (rest.map fun v => v.category).sum ≤ 8) (hdg : decode cL_law pc = .ok (.invokevirtual idx, 3))
    (kk : ∀ H1 : Heap, Old s H1 → va_P D vwCl (wsOf lay N cA A mm1) H1 → (∀ q, q < H.size → ¬ AW N A q → H1[q]? = H[q]?) → W p l e room_1 s m #[Value.ref b] below meth c H1 [] 188 6654 Q (F0 m (pc + 3) ls (.int r :: rest))) : W p l e room_1 s m #[Value.ref b] below meth c H [] 188 6654 Q (F0 m pc ls st0) := by
  obtain ⟨hx, hb, hml, hown, hts, hK, h1, h2, hX, hbl⟩ := X
  have hG : GoodIn WL (wsV "BenchTowelsLaw" idx C y (Cond.code y cc' nL' (some .int) :: WL)) := good_c (fun w h => by
    rcases List.mem_cons.mp h with rfl | h
    · exact w1
    rcases List.mem_cons.mp h with rfl | h
    · exact w2
    rcases List.mem_cons.mp h with rfl | h
    · exact w3
    rcases List.mem_cons.mp h with rfl | h
    · exact w4
    · cases h) w5
  have hpre : ∀ U : State, U.heap = H → s.WarmedH U.vm → va_Pc (.ref (A 0) :: As) (Pic lay N D cA A mm) (Value.ref (A 0) :: As).toArray U := by
    intro U hU hWm
    refine ⟨rfl, by rw [hU]; exact hP, va_K.moved hWm.alike hK, ?_⟩
    rw [hU]
    exact (SF.warm hWm hSF).kept (fun a h3 _ => hO.2 a h3)
  have hr := va_runV (e := e) (below := below) (R := room_1) (meth := meth) (locs := []) (cells := 188) (slots := 6654) (g := F0 m pc ls st0) (As := As) (rest := rest) ⟨hx, hb, hml, hown, hts⟩ hM (cwV n hts hG rfl hrm.1 hrm.2 hy hR) ⟨Pic.blind, va_recv hK hP hc (by rw [ws_get hN, hL]), hpre⟩ rfl hn hs hst (lv_room (st := rest) hW) hdg ⟨Nat.le_of_ble_eq_true rfl, Nat.le_of_ble_eq_true rfl⟩
  intro Tt hT Xs
  obtain ⟨v', st₀, t, T', Lc, e0, X', hLc, e1, e2, ⟨hv, hp, hf1, hf2⟩, stp⟩ := hr Tt hT Xs
  cases hv
  rw [e0] at hf1 hf2
  have hO1 : Old s T'.heap := ⟨Nat.le_trans hO.1 (by rw [e1]; exact hf1), fun q hq => by rw [e1, hf2 q (Nat.lt_of_lt_of_le hq hO.1) (fun z => absurd (hz q z) (Nat.not_le.mpr hq))]; exact hO.2 q hq⟩
  have k1 := kk T'.heap hO1 (by rw [e1]; exact hp.1) (fun q h3 h4 => by rw [e1]; exact hf2 q h3 h4)
  have k2 := va_forget (locs := Lc) (fun q hq => hz _ (hLc q hq)) k1
  obtain ⟨t2, a1, b1⟩ := k2 T' rfl X'
  exact ⟨t2, stp t2 a1, b1⟩
theorem l_C {idx n : Nat} {y : MethodName} {cc' : ByteArray} {nL' : Nat} {rm : Room} {As st0 : List Value} {r : Int32}
    (X : LX D cA st p s m c b L xs) (hO : Old s H) (hP : va_P D vwCl (wsOf cLay cN cA (aC s.heap.size st) mc) H) (hPr : va_P D vwCl (wsOf rLay rN cA (aR (s.heap.size + 172) st) mr) H) (hM : Met0 l y cc' nL' (some .int) rm cLay cN D cA (aC s.heap.size st) (.ref (aC s.heap.size st 0) :: As) mc (some (.int r)) mc1)
    (w1 : Cond.methodLink "BenchTowelsLaw" idx y ∈ WL) (w2 : Cond.instanceMethod y ∈ WL) (w3 : Cond.selects "BenchTowels" y y ∈ WL) (w5 : Cond.code y cc' nL' (some .int) ∈ WL)
    (hyc : y.cls = "BenchTowels") (hy : y.cls ≠ "java/lang/invoke/MethodHandle" ∧ y.cls ≠ "java/lang/invoke/VarHandle" ∧ (parseMethodDescriptor y.desc).map (fun d => d.parameters.length) = some n) (hrm : rm.cells = 0 ∧ rm.slots = 0) (hR : rm.frames + 1 ≤ 2048 ∧ 8 + (nL' + 11) + rm.locals ≤ 84000)
    (hn : As.length = n) (hs : ls.size = 4) (hst : st0 = As.reverse ++ .ref (aC s.heap.size st 0) :: rest) (hW : (rest.map fun v => v.category).sum ≤ 8) (hdg : decode cL_law pc = .ok (.invokevirtual idx, 3))
    (kk : ∀ H1 : Heap, Old s H1 → va_P D vwCl (wsOf cLay cN cA (aC s.heap.size st) mc1) H1 → va_P D vwCl (wsOf rLay rN cA (aR (s.heap.size + 172) st) mr) H1 → W p l e room_1 s m #[Value.ref b] below meth c H1 [] 188 6654 Q (F0 m (pc + 3) ls (.int r :: rest))) : W p l e room_1 s m #[Value.ref b] below meth c H [] 188 6654 Q (F0 m pc ls st0) := by
  refine l_V X X.2.2.2.2.2.2.1 (fun q hq => (aC_AW hq).1) hO hP hM (by decide) (L_bt _) kc_11.1 w1 w2 w3 wt_1_1 w5 ⟨hyc, hy⟩ hrm hR hn hs hst hW hdg (fun H1 hO1 hP1 hk => kk H1 hO1 hP1 (hPr.kept (fun k q hq => ?_)))
  have hlt := (hPr k q hq).lt
  obtain ⟨h3, rfl⟩ := ws_inv hq
  refine hk _ hlt (fun z => ?_)
  have z1 := (aC_AW z).2
  have z2 := (aR_AW (z := s.heap.size + 172) (st := st) ⟨k, h3, rfl⟩).1
  exact absurd z1 (Nat.not_lt.mpr z2)
theorem l_R {idx n : Nat} {y : MethodName} {cc' : ByteArray} {nL' : Nat} {rm : Room} {As st0 : List Value} {r : Int32}
    (X : LX D cA st p s m c b L xs) (hO : Old s H) (hP : va_P D vwCl (wsOf cLay cN cA (aC s.heap.size st) mc) H) (hPr : va_P D vwCl (wsOf rLay rN cA (aR (s.heap.size + 172) st) mr) H) (hM : Met0 l y cc' nL' (some .int) rm rLay rN D cA (aR (s.heap.size + 172) st) (.ref (aR (s.heap.size + 172) st 0) :: As) mr (some (.int r)) mr1)
    (w1 : Cond.methodLink "BenchTowelsLaw" idx y ∈ WL) (w2 : Cond.instanceMethod y ∈ WL) (w3 : Cond.selects "BenchTowelsModel" y y ∈ WL) (w5 : Cond.code y cc' nL' (some .int) ∈ WL)
    (hyc : y.cls = "BenchTowelsModel") (hy : y.cls ≠ "java/lang/invoke/MethodHandle" ∧ y.cls ≠ "java/lang/invoke/VarHandle" ∧ (parseMethodDescriptor y.desc).map (fun d => d.parameters.length) = some n) (hrm : rm.cells = 0 ∧ rm.slots = 0) (hR : rm.frames + 1 ≤ 2048 ∧ 8 + (nL' + 11) + rm.locals ≤ 84000)
    (hn : As.length = n) (hs : ls.size = 4) (hst : st0 = As.reverse ++ .ref (aR (s.heap.size + 172) st 0) :: rest) (hW : (rest.map fun v => v.category).sum ≤ 8) (hdg : decode cL_law pc = .ok (.invokevirtual idx, 3))
    (kk : ∀ H1 : Heap, Old s H1 → va_P D vwCl (wsOf cLay cN cA (aC s.heap.size st) mc) H1 → va_P D vwCl (wsOf rLay rN cA (aR (s.heap.size + 172) st) mr1) H1 → W p l e room_1 s m #[Value.ref b] below meth c H1 [] 188 6654 Q (F0 m (pc + 3) ls (.int r :: rest))) : W p l e room_1 s m #[Value.ref b] below meth c H [] 188 6654 Q (F0 m pc ls st0) := by
  refine l_V X X.2.2.2.2.2.2.2.1 (fun q hq => Nat.le_trans (Nat.le_add_right _ _) (aR_AW hq).1) hO hPr hM (by decide) (L_ref _) kc_12.1 w1 w2 w3 wt_1_13 w5 ⟨hyc, hy⟩ hrm hR hn hs hst hW hdg (fun H1 hO1 hP1 hk => kk H1 hO1 (hP.kept (fun k q hq => ?_)) hP1)
  have hlt := (hP k q hq).lt
  obtain ⟨h3, rfl⟩ := ws_inv hq
  refine hk _ hlt (fun z => ?_)
  have z1 := (aR_AW z).1
  have z2 := (aC_AW (z := s.heap.size) (st := st) ⟨k, h3, rfl⟩).2
  exact absurd z2 (Nat.not_lt.mpr z1)
end LR
