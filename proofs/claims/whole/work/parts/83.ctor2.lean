/-! more of the constructors' rows: rows of rows, places of arrays of objects, calls of constructors, the end -/
def mnE (E : Nat → va_E) (cA : Nat → ClassId) (h0 n N K : Nat) : Nat → va_E := glE (upE E n (arQ (cA 2) N (fun j => if j < N then some (h0 + n + 1 + j) else none))) (n + 1) (fun _ => arI cA K (fun _ => 0))
section CT2
variable {p : Program} {l : Launch} {e : Env} {R : Room} {s : State} {m0 : MethodId} {args : Array Value} {below : List Frame} {meth : Method} {c : Code} {H : Heap} {locs : List Loc} {Q : State → Prop}
variable {D : va_G} {cA : Nat → ClassId} {own : String} {cc : ByteArray} {nL : Nat} {pc : Nat} {ls : Array Slot} {rest : List Value} {E : Nat → va_E} {h0 n : Nat} {H0 : Heap} {cells slots : Nat}
theorem k_mna {v w : Int32} {N K idx n' cells' slots' : Nat} (X : CK D cA p s m0 args meth c own cc nL) (h : KS D E h0 n H0 H locs) (w1 : Cond.classLink own idx "[[I" ∈ WL) (w2 : Cond.arrayClass .int ∈ WL) (hv : nI N = v) (hw : nI K = w) (hN : N ≤ 1000) (hK : K ≤ 1000) (en : n + 1 + N = n') (ec : cells + 1 + N = cells') (es : slots + N + N * K = slots') (hc : cells' ≤ R.cells) (hs : slots' ≤ R.slots) (hd : decode cc pc = .ok (.multianewarray idx 2, 4))
    (kk : ∀ (H1 : Heap) (locs1 : List Loc), KS D (mnE E cA h0 n N K) h0 n' H0 H1 locs1 → W p l e R s m0 args below meth c H1 locs1 cells' slots' Q (F0 m0 (pc + 4) ls (.ref (h0 + n) :: rest))) : W p l e R s m0 args below meth c H locs cells slots Q (F0 m0 pc ls (.int w :: .int v :: rest)) := by
  subst ec; subst es; subst hv; subst hw; subst en
  refine w_mna X.1 X.2.1 X.2.2.2.1 (X.2.2.2.2.1 _ w1) X.2.2.2.2.2.2.2.2.2.2 (X.2.2.2.2.1 _ w2) (g := F0 m0 pc ls (.int (nI K) :: .int (nI N) :: rest)) rfl hd rfl hN hK (by omega) (by omega) fun H1 cO cI f1 f2 z e0 er ho => ?_
  obtain ⟨a, b, c1, c2, c3⟩ := h
  have hO : cO = cA 2 := Option.some.inj (f1.symm.trans (X.2.2.2.2.2.1.2 2 _ rfl).2)
  have hI : cI = cA 0 := Option.some.inj (f2.symm.trans (X.2.2.2.2.2.1.2 0 _ rfl).2)
  subst hO; subst hI
  rw [a] at z e0 er ho ⊢
  refine kk _ _ ⟨by omega, wsR_P (fun k hk => ?_), by omega, fun q h1 h2 => (ho q (by omega)).trans (c2 q h1 h2), fun q hq => ?_⟩
  · unfold mnE
    by_cases e1 : k < n + 1
    · rw [glE_lt e1]
      by_cases e2 : k = n
      · subst e2
        rw [upE_same]
        exact e0
      · rw [upE_ne e2]
        exact (wsR_at b (show k < n by omega)).kept (ho _ (by show h0 + k < _; omega))
    · rw [glE_ge (by omega)]
      have := er (k - n - 1) (by omega)
      rw [show h0 + n + 1 + (k - n - 1) = h0 + k by omega] at this
      exact this
  · rcases List.mem_append.mp hq with h | h
    · exact c3 q h
    · obtain ⟨j, -, rfl⟩ := List.mem_map.mp h
      exact Nat.le_add_right _ _
theorem k_aast {ci nf : Nat} {C EC : String} {T : u_T} {ty0 : Nat → FieldType} (K : KC ci C T nf ty0) (t k kv : Nat) {N iN : Nat} {g : Nat → Option Nat} {vs : List Value} {i : Int32} (ht : (tysOf cA)[t]? = some (cA t, .object EC)) (hass : C = EC ∨ va_Nw (.castable C EC) s) (X : CK D cA p s m0 args meth c own cc nL) (h : KS D E h0 n H0 H locs) (hk : k < n) (hE : E k = arQ (cA t) N g) (hkv : kv < n) (hV : E kv = .inr (ci, vs)) (hiN : i.toNatClampNeg = iN) (hin : vp_in i N) (hd : decode cc pc = .ok (.aastore, 1))
    (kk : ∀ (H1 : Heap) (locs1 : List Loc), KS D (upE E k (arQ (cA t) N (va_up g iN (some (h0 + kv))))) h0 n H0 H1 locs1 → W p l e R s m0 args below meth c H1 locs1 cells slots Q (F0 m0 (pc + 1) ls rest)) : W p l e R s m0 args below meth c H locs cells slots Q (F0 m0 pc ls (.ref (h0 + kv) :: .int i :: .ref (h0 + k) :: rest)) := by
  subst hiN
  have hlt : i.toNatClampNeg < N := Nat.not_le.mp fun q => hin (Or.inr q)
  have i0 : ¬ i < 0 := fun q => hin (Or.inl q)
  have he : (wsR h0 n E)[k]? = some (h0 + k, arQ (cA t) N g) := by rw [wsR_get hk, hE]
  have hv : (wsR h0 n E)[kv]? = some (h0 + kv, .inr (ci, vs)) := by rw [wsR_get hkv, hV]
  obtain ⟨r', hr', cellV, g1, g2, g3, -⟩ := h.2.1 kv _ hv
  have hcls := (X.2.2.2.2.2.1.1 ci _ K.1).2
  obtain ⟨kA, comp, k1, k2, k3, -⟩ := (X.2.2.2.2.2.1.2 t _ ht).2
  obtain ⟨kE, hkE, -⟩ := Vm.findClass_spec k3
  obtain ⟨kC, hkC, -⟩ := hcls.2
  have hA : s.vm.assignable (D.1 ci) comp = true := by
    rcases hass with rfl | hca
    · have hcomp : comp = D.1 ci := Option.some.inj (k3.symm.trans hcls.1)
      subst hcomp
      exact va_assign hcls
    · exact vb_asgC hca comp (D.1 ci) k3 hcls.1
  refine W.aast X.1 X.2.1 (h.2.1 k _ he) (fun q h => by cases h) (fun h => by cases h) k1 k2 rfl hkE ⟨i0, by show _ < (arrV _ _ _).slots.size; rw [arrV_size]; exact hlt⟩ g1 (fun q h => by rw [g3] at h; cases h) (by rw [g2]; exact hkC) (by rw [g2]; exact hA) rfl rfl hd fun H1 e z oq => ?_
  refine kk H1 _ (ks_set h hk z (h.2.1.set wsR_D he ?_ oq) (h.2.2.put z oq (Nat.le_add_right _ _)))
  show H1[h0 + k]? = some (arrV (cA t) N fun j => va_rf (va_up g i.toNatClampNeg (some (h0 + kv)) j))
  rw [e]
  show some ((arrV (cA t) N fun j => va_rf (g j)).setSlot _ _) = _
  rw [arrV_store]
  congr 2
  funext q
  by_cases hq : q = i.toNatClampNeg
  · subst hq
    simp [updV, va_up, va_rf]
  · simp [updV, va_up, hq]
theorem k_obj {idx : Nat} {a : Nat} (X : CK D cA p s m0 args meth c own cc nL) (w1 : Cond.methodLink own idx objectInit ∈ WL) (hs : ls.size = nL) (hd : decode cc pc = .ok (.invokespecial idx, 3)) (hf : 1 ≤ R.frames) (hl : (rest.map fun v => v.category).sum + 12 ≤ R.locals)
    (kk : W p l e R s m0 args below meth c H locs cells slots Q (F0 m0 (pc + 3) ls rest)) : W p l e R s m0 args below meth c H locs cells slots Q (F0 m0 pc ls (.ref a :: rest)) := by
  have h2 := X.2.2.2.2.1 _ wt_1_28
  rw [objcode_eq] at h2
  refine W.objInit X.1 X.2.1 X.2.2.2.1 (X.2.2.2.2.1 _ w1) (X.2.2.2.2.1 _ wt_1_27) h2 rfl (by rw [X.2.2.1]; exact hs) rfl hd hf (by show 2 * 0 + _ + 12 ≤ _; omega) kk
/-- behind a constructor's call: its cells stand behind those that stood -/
theorem k_after {y : MethodName} {k0 n1 n' mc ms cells' slots' pc' : Nat} {st0 As : List Value} {F : Nat → va_E} (h : KS D E h0 n H0 H locs) (hk : k0 ≤ n) (hr : va_Run p l e R s m0 args below meth c H locs cells slots mc ms (F0 m0 pc ls st0) rest (fun st oc t => oc = .returned none ∧ (t.heap.size = h0 + k0 + n1 ∧ va_P D vwCl (wsR (h0 + k0) n1 F) t.heap) ∧ va_F (Fz (h0 + k0)) st t) (Fz (h0 + k0))) (en : k0 + n1 = n') (ec : cells + mc = cells') (es : slots + ms = slots') (hpc : pc + 3 = pc')
    (kk : ∀ (H1 : Heap) (locs1 : List Loc), KS D (glE E k0 F) h0 n' H0 H1 locs1 → W p l e R s m0 args below meth c H1 locs1 cells' slots' Q (F0 m0 pc' ls rest)) : W p l e R s m0 args below meth c H locs cells slots Q (F0 m0 pc ls st0) := by
  subst en; subst ec; subst es; subst hpc
  intro T hT Xs
  obtain ⟨v', st₀, t, T', L, e0, X', hL, e1, e2, ⟨hv, ⟨hz, hp⟩, hf⟩, st⟩ := hr T hT Xs
  cases hv
  obtain ⟨a, b, c1, c2, c3⟩ := h
  obtain ⟨f1, f2⟩ := hf
  rw [e0] at f1 f2
  have hsz : T'.heap.size = h0 + (k0 + n1) := by rw [e1]; omega
  have hKS : KS D (glE E k0 F) h0 (k0 + n1) H0 T'.heap (locs ++ L) := by
    refine ⟨hsz, wsR_P (fun k hk2 => ?_), by rw [e1]; omega, fun q h1 h2 => ?_, fun q hq => ?_⟩
    · rw [e1]
      by_cases hlt : k < k0
      · rw [glE_lt hlt]
        exact (wsR_at b (show k < n by omega)).kept (f2 _ (by show h0 + k < _; omega) (by show ¬ h0 + k0 ≤ h0 + k; omega))
      · rw [glE_ge (by omega)]
        have := wsR_at hp (show k - k0 < n1 by omega)
        rw [show h0 + k0 + (k - k0) = h0 + k by omega] at this
        exact this
    · rw [e1, f2 q (by omega) (by show ¬ h0 + k0 ≤ q; intro z; exact h2 (by show h0 ≤ q; omega))]
      exact c2 q h1 h2
    · rcases List.mem_append.mp hq with h | h
      · exact c3 q h
      · have := hL q h
        show h0 ≤ q.base
        have : h0 + k0 ≤ q.base := this
        omega
  obtain ⟨t2, a1, b1⟩ := kk T'.heap (locs ++ L) hKS T' rfl X'
  exact ⟨t2, st t2 a1, b1⟩
theorem k_pre {k0 : Nat} {e0 : va_E} {As : List Value} (X : CK D cA p s m0 args meth c own cc nL) (h : KS D E h0 n H0 H locs) (hn : k0 + 1 = n) (hE : E k0 = e0) : ∀ U : State, U.heap = H → s.WarmedH U.vm → va_Pc As (PreC D cA (h0 + k0) e0) As.toArray U := by
  intro U hU hW
  subst hE
  refine ⟨rfl, by rw [hU, h.1]; omega, by rw [hU]; exact wsR_at h.2.1 (by omega), va_K.moved hW.alike X.2.2.2.2.2.1, VX.warm hW X.2.2.2.2.2.2⟩
theorem k_fix (X : CK D cA p s m0 args meth c own cc nL) : CallFix p m0 c cc nL s args WL own := ⟨X.1, X.2.1, X.2.2.1, X.2.2.2.1, X.2.2.2.2.1⟩
theorem k_call {y : MethodName} {cc' : ByteArray} {nL' idx k0 n1 n' na mc ms cells' slots' : Nat} {rm : Room} {e0 : va_E} {As st0 : List Value} {F : Nat → va_E} (X : CK D cA p s m0 args meth c own cc nL) (h : KS D E h0 n H0 H locs) (hM : Ctor l y cc' nL' rm D cA (h0 + k0) As e0 n1 F mc ms) (hn : k0 + 1 = n) (hE : E k0 = e0)
    (w1 : Cond.methodLink own idx y ∈ WL) (w2 : Cond.instanceMethod y ∈ WL) (w4 : Cond.initialized y.cls ∈ WL) (w5 : Cond.code y cc' nL' none ∈ WL) (hy : y.name = "<init>" ∧ y.cls ≠ "java/lang/invoke/MethodHandle" ∧ y.cls ≠ "java/lang/invoke/VarHandle" ∧ (parseMethodDescriptor y.desc).map (fun d => d.parameters.length) = some na) (hrm : rm.cells = mc ∧ rm.slots = ms) (hR : rm.frames + 1 ≤ R.frames ∧ 8 + (nL' + 11) + rm.locals ≤ R.locals)
    (ha : As.length = na) (hs : ls.size = nL) (hst : st0 = As.reverse ++ .ref (h0 + k0) :: rest) (hW : (rest.map fun v => v.category).sum ≤ 8) (hd : decode cc pc = .ok (.invokespecial idx, 3)) (en : k0 + n1 = n') (ec : cells + mc = cells') (es : slots + ms = slots') (hc : cells' ≤ R.cells) (hsl : slots' ≤ R.slots)
    (kk : ∀ (H1 : Heap) (locs1 : List Loc), KS D (glE E k0 F) h0 n' H0 H1 locs1 → W p l e R s m0 args below meth c H1 locs1 cells' slots' Q (F0 m0 (pc + 3) ls rest)) : W p l e R s m0 args below meth c H locs cells slots Q (F0 m0 pc ls st0) := by
  have hG : GoodIn WL (Cond.code y cc' nL' none :: WL) := good_c (ws := []) (fun w h => by cases h) w5
  exact k_after (y := y) (As := As) h (by omega) (va_runI (As := As) (rest := rest) (k_fix X) hM (cwI na X.2.2.2.2.1 hG rfl hrm.1 hrm.2 (X.2.2.2.2.1 _ w4) (X.2.2.2.2.1 _ w1) (X.2.2.2.2.1 _ w2) hy.1 hy.2 hR) ⟨PreC.blind, k_pre X h hn hE⟩ rfl ha hs hst (lv_room (st := rest) hW) hd ⟨by omega, by omega⟩) en ec es rfl kk
theorem k_callN {y : MethodName} {cc' : ByteArray} {nL' idx k0 n1 n' na mc ms cells' slots' : Nat} {rm : Room} {e0 : va_E} {As st0 : List Value} {F : Nat → va_E} (X : CK D cA p s m0 args meth c own cc nL) (h : KS D E h0 n H0 H locs) (hM : Ctor l y cc' nL' rm D cA (h0 + k0) As e0 n1 F mc ms) (hn : k0 + 1 = n) (hE : E k0 = e0)
    (w1 : (own, idx, y) ∈ xNest) (w2 : Cond.instanceMethod y ∈ WL) (w4 : Cond.initialized y.cls ∈ WL) (w5 : Cond.code y cc' nL' none ∈ WL) (hy : y.name = "<init>" ∧ y.cls ≠ "java/lang/invoke/MethodHandle" ∧ y.cls ≠ "java/lang/invoke/VarHandle" ∧ (parseMethodDescriptor y.desc).map (fun d => d.parameters.length) = some na) (hrm : rm.cells = mc ∧ rm.slots = ms) (hR : rm.frames + 1 ≤ R.frames ∧ 8 + (nL' + 11) + rm.locals ≤ R.locals)
    (ha : As.length = na) (hs : ls.size = nL) (hst : st0 = As.reverse ++ .ref (h0 + k0) :: rest) (hW : (rest.map fun v => v.category).sum ≤ 8) (hd : decode cc pc = .ok (.invokespecial idx, 3)) (en : k0 + n1 = n') (ec : cells + mc = cells') (es : slots + ms = slots') (hc : cells' ≤ R.cells) (hsl : slots' ≤ R.slots)
    (kk : ∀ (H1 : Heap) (locs1 : List Loc), KS D (glE E k0 F) h0 n' H0 H1 locs1 → W p l e R s m0 args below meth c H1 locs1 cells' slots' Q (F0 m0 (pc + 3) ls rest)) : W p l e R s m0 args below meth c H locs cells slots Q (F0 m0 pc ls st0) := by
  have hG : GoodIn WL (Cond.code y cc' nL' none :: WL) := good_c (ws := []) (fun w h => by cases h) w5
  exact k_after (y := y) (As := As) h (by omega) (va_runIN (As := As) (rest := rest) (k_fix X) hM ⟨va_cnB na X.2.2.2.2.1 hG rfl hrm.1 hrm.2 (X.2.2.2.2.2.2.1 _ w1) (X.2.2.2.2.1 _ w4) hy.2 hR, hy.1, X.2.2.2.2.1 _ w2⟩ ⟨PreC.blind, k_pre X h hn hE⟩ rfl ha hs hst (lv_room (st := rest) hW) hd ⟨by omega, by omega⟩) en ec es rfl kk
theorem ks_eq {E1 : Nat → va_E} (h : KS D E h0 n H0 H locs) (hE : ∀ k, k < n → E k = E1 k) : KS D E1 h0 n H0 H locs := ⟨h.1, wsR_P (fun k hk => by rw [← hE k hk]; exact wsR_at h.2.1 hk), h.2.2⟩
theorem k_ret {E1 : Nat → va_E} (X : CK D cA p s m0 args meth c own cc nL) (hr : meth.sig.returnType = none) (hlk : meth.locks = false) (h : KS D E h0 n s.heap H locs) (hE : ∀ k, k < n → E k = E1 k) (hd : decode cc pc = .ok (.return_, 1)) : W p l e R s m0 args below meth c H locs cells slots (MQ below (fun _ st oc t => oc = .returned none ∧ (t.heap.size = h0 + n ∧ va_P D vwCl (wsR h0 n E1) t.heap) ∧ va_F (Fz h0) st t) args s cells slots (Fz h0)) (F0 m0 pc ls []) := by
  have h' := ks_eq h hE
  exact W.vret X.1 X.2.1 hr (fun t ht hW => ⟨rfl, ⟨by rw [ht]; exact h'.1, by rw [ht]; exact h'.2.1⟩, h'.2.2.F ht⟩) h'.2.2.2.2 hd hlk
theorem ctor_of {y : MethodName} {rm : Room} {As : List Value} {e0 : va_E} {mc ms : Nat} {F : Nat → va_E} (hy : plainName y.cls = true) (hyi : y.name = "<init>") (hn : (lg_sl (.ref h0 :: As)).length ≤ nL)
    (body : ∀ (p : Program) (e : Env) (s : State) (m0 : MethodId) (below : List Frame) (meth : Method) (c : Code) (ls : Array Slot), CK D cA p s m0 (Value.ref h0 :: As).toArray meth c y.cls cc nL → meth.name = "<init>" → meth.sig.returnType = none → meth.locks = false → KS D (fun _ => e0) h0 1 s.heap s.heap [] → lv_has ls nL (lv_args 0 (.ref h0 :: As)) → W p l e rm s m0 (Value.ref h0 :: As).toArray below meth c s.heap [] 0 0 (MQ below (fun _ st oc t => oc = .returned none ∧ (t.heap.size = h0 + n ∧ va_P D vwCl (wsR h0 n F) t.heap) ∧ va_F (Fz h0) st t) (Value.ref h0 :: As).toArray s mc ms (Fz h0)) (F0 m0 0 ls [])) : Ctor l y cc nL rm D cA h0 As e0 n F mc ms := by
  refine Met.ofW (cc := cc) (maxL := nL) (ret := none) hy rfl ?_
  intro p e s m0 args below meth c s₁ B hml hv
  obtain ⟨rfl, h1, h2, h3, h4⟩ := hv
  have hts := atoms_spec (ws := Cond.code y cc nL none :: WL) B.pre
  have hl := lv_entry (.ref h0 :: As) (n := nL) hn
  rw [lg_entry_eq]
  generalize (lg_sl (.ref h0 :: As) ++ List.replicate (nL - (lg_sl (.ref h0 :: As)).length) Slot.unset).toArray = ls at hl ⊢
  refine body p e s m0 below meth c ls ⟨B.exec, B.bytes, hml, findClass_of_methodNamed B.named, fun w h => hts w (List.mem_cons_of_mem _ h), h3, h4⟩ (by rw [← hyi]; exact (name_of_methodNamed B.named B.method).1) B.returns B.notSynchronized ⟨h1, wsR_P (fun k hk => ?_), va_S.rf⟩ hl
  rw [show k = 0 by omega]
  exact h2
end CT2
def allL (P : Nat → Prop) : Nat → Nat → Prop
  | 0, _ => True
  | n + 1, k => P k ∧ allL P n (k + 1)
theorem allL_all {P : Nat → Prop} : ∀ (n k0 : Nat), allL P n k0 → ∀ k, k0 ≤ k → k < k0 + n → P k
  | 0, _, _, k, h1, h2 => absurd h2 (by omega)
  | n + 1, k0, ⟨h, h'⟩, k, h1, h2 => by
    by_cases e : k = k0
    · subst e; exact h
    · exact allL_all n (k0 + 1) h' k (by omega) (by omega)
theorem lt_all {P : Nat → Prop} {n : Nat} (h : allL P n 0) : ∀ k, k < n → P k := fun k hk => allL_all n 0 h k (Nat.zero_le k) (by omega)
