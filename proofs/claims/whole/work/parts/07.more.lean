/-! calls by a name that a class inherits: of a super's method, of a static one; bitCount -/
section UPW
/-- an invokestatic whose named class has the method from a superclass: as from the tables in which its two entries are noted -/
theorem su_cold {Q : Unit → Pre} {E : CtlPost} {e : Env} {d : Bool} {acts : List Action} {s s₀ : State} {f : JFrame} {index ci n c : Nat} {m : MethodId} {dk ck : Class} {cf : ClassFile} {name desc : String} (hs : s.topJava?.isSome) (hp : e.platform.polymorphicOnlyByInvokevirtual = true)
    (hW : s₀.WarmedH s.vm) (hE : s₀.MethodEntryUp e s.vm f.method.cls index c m ci) (h1 : s₀.vm.classes[f.method.cls]? = some dk) (h2 : dk.cf = some cf)
    (h3 : cf.constantPool[index]? = some (if false then .interfaceMethodref ci n else .methodref ci n)) (h4 : cf.constantPool.nameAndType? n = some (name, desc))
    (hck : s₀.vm.classes[c]? = some ck) (hnone : (ck.methods.any fun x => x.name == name && !x.isStatic && signaturePolymorphic ck x) = false) :
    wp (invokestatic.sem index) Q E e d acts (s.setTop f) ↔ wp (invokestatic.sem index) Q E e d acts ((s.setVm (s.vm.calledUp f.method.cls ci index c m)).setTop f) := by
  obtain ⟨gc1, -, w1, gm1⟩ := hE.classFirst
  have wu := hE.warmed
  obtain ⟨ka, hka, ea⟩ := hW.alike.2.2 _ _ h1
  obtain ⟨kb, hkb, eb⟩ := wu.alike.2.2 _ _ h1
  obtain ⟨ca, hca, eca⟩ := w1.alike.2.2 _ _ hck
  obtain ⟨cb, hcb, ecb⟩ := wu.alike.2.2 _ _ hck
  have ask1 := memberRef_ask_via (e := e) hka (by rw [ea]; exact h2) h3 h4
  have ask2 := memberRef_ask_via (e := e) hkb (by rw [eb]; exact h2) h3 h4
  have no1 : (ca.methods.any fun x => x.name == name && !x.isStatic && signaturePolymorphic ca x) = false := by rw [eca]; exact hnone
  have no2 : (cb.methods.any fun x => x.name == name && !x.isStatic && signaturePolymorphic cb x) = false := by rw [ecb]; exact hnone
  have t1 : (s.setVm (s.vm.noted f.method.cls ci (.cls c))).topJava?.isSome := hs
  have t2 : (s.setVm (s.vm.calledUp f.method.cls ci index c m)).topJava?.isSome := hs
  have LC : ∀ {Q' : ClassId → Pre} {d' : Bool} {acts' : List Action}, wp (Jvm.resolveClassAt ci) Q' E e d' acts' (s.setTop f) ↔ Q' c d' acts' ((s.setVm (s.vm.noted f.method.cls ci (.cls c))).setTop f) :=
    _root_.Jvm.W.resolveClassAt_links (t := s.setTop f) (State.method?_setTop f hs) gc1
  have LM : ∀ {Q' : MethodId → Pre} {d' : Bool} {acts' : List Action}, wp (Jvm.resolveMethodAt index) Q' E e d' acts' ((s.setVm (s.vm.noted f.method.cls ci (.cls c))).setTop f) ↔ Q' m d' acts' ((s.setVm (s.vm.calledUp f.method.cls ci index c m)).setTop f) :=
    _root_.Jvm.W.resolveMethodAt_links (t := (s.setVm (s.vm.noted f.method.cls ci (.cls c))).setTop f) (State.method?_setTop f t1) gm1
  simp [invokestatic.sem, hp, Seam.memberRefOf, State.method?_setTop f hs, State.method?_setTop f t2, ask1, ask2, LC, _root_.Jvm.W.resolveClassAt_ready (s := (s.setVm (s.vm.calledUp f.method.cls ci index c m)).setTop f) (State.method?_setTop f t2) hE.classReady,
    hca, hcb, no1, no2, LM, _root_.Jvm.W.resolveMethodAt_ready (s := (s.setVm (s.vm.calledUp f.method.cls ci index c m)).setTop f) (State.method?_setTop f t2) hE.ready, -Array.any_eq_true]
theorem su_step {p : Program} {l : Launch} {e : Env} {R : Room} {s : State} {m : MethodId} {args : Array Value} {below : List Frame} {meth : Method} {c : Code} {T : State} {locs : List Loc} {cells slots : Nat}
    (X : Stand p l e R s m args below meth c T locs cells slots) (hexec : p.tables.exec = Jvm.exec) {own owner : String} {index : Nat} {x : MethodName} (hown : s.vm.findClass own = some m.cls) (hlink : (Cond.methodLink own index x).before args s = true)
    (hsame : (Cond.sameMethod x.cls owner x.name x.desc).before args s = true) (hmh : owner ≠ "java/lang/invoke/MethodHandle" ∧ owner ≠ "java/lang/invoke/VarHandle")
    {m' : MethodId} {meth' : Method} {k' : Class} (hn : s.methodNamed? ⟨owner, x.name, x.desc⟩ = some m') (hm' : s.vm.method? m' = some meth') (hst : meth'.isStatic = true) (hk' : s.vm.classes[m'.cls]? = some k') (hinit : k'.init = .initialized)
    {g : JFrame} (hg : g.method = m) {argsL rest : List Value} (hlen : argsL.length = meth'.sig.parameters.length) (hstack : g.stack = argsL.reverse ++ rest) (hdg : decode c.code g.pc = .ok (.invokestatic index, 3)) :
    ∃ vm', Stand p l e R s m args below meth c (T.setVm vm') locs cells slots ∧ ∀ target, (∀ acts, Steps p.tables e below (doInvoke e ((T.setVm vm').setTop { g with stack := rest }) acts m' argsL.toArray).1 target) → Steps p.tables e below (T.setTop g) target := by
  have pl1 : e.platform.magicAccessors = ({} : Platform).magicAccessors := by rw [X.admits.platform]
  have pl2 : e.platform.polymorphicOnlyByInvokevirtual = true := by rw [X.admits.platform]
  obtain ⟨cn, ck, r1, hcn, hck, hni, hf, hn1⟩ := Cond.sameMethod_found hsame
  cases hn.symm.trans hn1
  obtain ⟨ci, hl, hright⟩ := Cond.methodLink_specUp hown hcn hck hni hf hlink e.platform pl1 (by rw [X.admits.platform])
  have hE : s.MethodEntryUp e T.vm m.cls index cn m' ci := State.methodEntryUp X.warmed hl hright
  obtain ⟨kx, hkx, hnx⟩ := className_of_methodNamed hn
  cases hk'.symm.trans hkx
  obtain ⟨dk, cfile, nt, nm, ds, ck', _, _, hd, hcf, hcp, hnt, -, -, hck', -, hpoly, -⟩ := hl.here
  cases hck.symm.trans hck'
  have al := hE.warmed.alike
  obtain ⟨d2, hd2, ed2⟩ := al.2.2 _ _ hd
  obtain ⟨k2, hk2, ek2⟩ := al.2.2 _ _ hk'
  obtain ⟨c2, hc2, ec2⟩ := al.2.2 _ _ hck
  have no1 : (ck.methods.any fun y => y.name == nm && !y.isStatic && signaturePolymorphic ck y) = false := by simp [hpoly]
  have no2 : (c2.methods.any fun y => y.name == nm && !y.isStatic && signaturePolymorphic c2 y) = false := by rw [ec2]; exact no1
  have hcp' : cfile.constantPool[index]? = some (if false then .interfaceMethodref ci nt else .methodref ci nt) := hcp
  refine ⟨T.vm.calledUp m.cls ci index cn m', X.noted hE.warmed, fun target hrest => ?_⟩
  subst hg
  jvm_step X.here [hexec, hdg, su_cold (e := e) (s := T) (s₀ := s) (f := g) X.here.top pl2 X.warmed hE hd hcf hcp' hnt hck no1,
    invokestatic.wp_ready (e := e) (s := T.setVm (T.vm.calledUp g.method.cls ci index cn m')) (k := k2) (meth := meth') (m := m') (args := argsL) (rest := rest) (f := g)
      X.here.top ⟨ci, nm, ds, false, cn, c2, memberRef_ask_via (e := e) hd2 (by rw [ed2]; exact hcf) hcp' hnt, hE.classReady, hc2, no2⟩ hE.ready hk2
      (by show (T.vm.calledUp g.method.cls ci index cn m').method? m' = some meth'; rw [al.method?]; exact hm')
      (by rw [ek2]; show signaturePolymorphic k' meth' = false; simp [signaturePolymorphic, hnx, hmh.1, hmh.2]) hst (by rw [ek2]; exact hinit) hlen hstack]
  exact fun acts => hrest _
end UPW
section RW3
variable {p : Program} {l : Launch} {e : Env} {R : Room} {s : State} {m0 : MethodId} {args : Array Value} {below : List Frame} {meth : Method} {c : Code} {H : Heap} {locs : List Loc} {Q : State → Prop}
variable {lay : Lay} {N : Nat} {D : va_G} {cA : Nat → ClassId} {A : Nat → Nat} {m m1 : Mm} {own : String} {cc : ByteArray} {nL : Nat} {ret : Option FieldType} {pc : Nat} {ls : Array Slot} {rest : List Value}
theorem sub_one {s : State} {a b : ClassId} {k : Class} (hk : s.vm.classes[a]? = some k) (h : k.super = some b) : s.vm.isSubclass a b = true := by
  have hlt : a < s.vm.classes.size := (Array.getElem?_eq_some_iff.mp hk).1
  unfold Vm.isSubclass
  obtain ⟨n, hn⟩ : ∃ n, s.vm.classes.size = n + 1 := Nat.exists_eq_succ_of_ne_zero (Nat.ne_of_gt (Nat.lt_of_le_of_lt (Nat.zero_le _) hlt))
  rw [hn]
  unfold Vm.isSubclassAux
  rw [hk]
  simp only [h]
  unfold Vm.isSubclassAux
  simp
/-- super, where the direct superclass has the method from its own -/
theorem c_SUU {idx n q ci nf pc' : Nat} {x y : MethodName} {cc' : ByteArray} {nL' : Nat} {ret' : Option FieldType} {rm : Room} {As st0 : List Value} {C : String} {T : u_T} {fs : List Value} {v : Option Value} (owner : String)
    (X : CX lay N D cA A p s m0 args meth c own cc nL ret) (hP : va_P D vwCl (wsOf lay N cA A m) H) (hS : va_S (AW N A) s.heap H locs) (hM : Met0 l y cc' nL' ret' rm lay N D cA A (.ref (A q) :: As) m v m1) (hq : q < N) (hL : lay cA A q (m q) = .inr (ci, fs)) (hc : vwCl[ci]? = some (C, T, nf)) (hyx : y = ⟨owner, x.name, x.desc⟩)
    (w1 : Cond.methodLink own idx x ∈ WL) (w2 : Cond.sameMethod x.cls owner x.name x.desc ∈ WL) (w3 : Cond.superclass own x.cls ∈ WL) (w9 : Cond.superclass x.cls owner ∈ WL) (w6 : Cond.instanceMethod y ∈ WL) (w4 : Cond.initialized y.cls ∈ WL) (w5 : Cond.code y cc' nL' ret' ∈ WL)
    (hy : y.name ≠ "<init>" ∧ (parseMethodDescriptor y.desc).map (fun d => d.parameters.length) = some n) (hrm : rm.cells = 0 ∧ rm.slots = 0) (hR : rm.frames + 1 ≤ R.frames ∧ 8 + (nL' + 11) + rm.locals ≤ R.locals)
    (hn : As.length = n) (hs : ls.size = nL) (hst : st0 = As.reverse ++ .ref (A q) :: rest) (hW : (rest.map fun v => v.category).sum ≤ 8) (hdg : decode cc pc = .ok (.invokespecial idx, 3)) (hpc : pc + 3 = pc')
    (kk : ∀ (H1 : Heap) (locs1 : List Loc), va_P D vwCl (wsOf lay N cA A m1) H1 → va_S (AW N A) s.heap H1 locs1 → W p l e R s m0 args below meth c H1 locs1 0 0 Q (F0 m0 pc' ls (v.toList ++ rest))) : W p l e R s m0 args below meth c H locs 0 0 Q (F0 m0 pc ls st0) := by
  have hts := X.2.2.2.2.1
  have hG : GoodIn WL (Cond.code y cc' nL' ret' :: WL) := good_c (ws := []) (fun w h => by cases h) w5
  have hini := hts _ w4
  have hcode := hts _ w5
  have hK : Back l R p e below s args y 3 8 (PreOf R 0 0 (va_Pc (.ref (A q) :: As) (Pic lay N D cA A m))) (PostOf (fun _ st oc t => oc = .returned v ∧ Pic lay N D cA A m1 t ∧ va_F (AW N A) st t) 0 0 (AW N A)) :=
    back_of (bytes := cc') (maxL := nL') (ret := ret') hM Pic.blind hrm.1 hrm.2 hR.1 hR.2 (pay_in hts hG) List.mem_cons_self (fun a' U hW => word_at hW (Or.inl (by first | rfl | simp [Cond.onTables, Cond.keeps, Cond.steady])) hini)
  obtain ⟨mk, methM, hnamed, hmethM, hstM, habM⟩ := Cond.instanceMethod_spec (hts _ w6)
  obtain ⟨methM', cM, hmethM', -, -, -, -, -, -, hsigM⟩ := Cond.code_spec hnamed hcode
  cases hmethM.symm.trans hmethM'
  obtain ⟨ps, dk, kp, hps, hdk, hkp, hsuper, -, -, hnid⟩ := Cond.superclass_spec X.2.2.2.1 (hts _ w3)
  obtain ⟨ps2, dk2, kp2, hps2, hdk2, hkp2, hsuper2, -, -, -⟩ := Cond.superclass_spec hps (hts _ w9)
  have hnm : s.methodNamed? ⟨owner, x.name, x.desc⟩ = some mk := by rw [← hyx]; exact hnamed
  have hpm : mk.cls = ps2 := by
    have h1 := findClass_of_methodNamed hnamed
    have h2 : s.vm.findClass y.cls = some ps2 := by rw [hyx]; exact hps2
    exact Option.some.inj (h1.symm.trans h2)
  have hsub : s.vm.isSubclass ps mk.cls = true := by rw [hpm]; exact sub_one hdk2 hsuper2
  obtain ⟨cellB, hcB, hoB, hclB⟩ := va_recv X.2.2.2.2.2.2.2.1 hP hc (by rw [ws_get hq, hL])
  obtain ⟨hfc, kB, hkB, -⟩ := (X.2.2.2.2.2.2.2.1.1 ci _ hc).2
  have e9 : cellB.cls = D.1 ci := (Option.some.inj (hfc.symm.trans hclB)).symm
  have hno : x.name ≠ "<init>" := by have := hy.1; rw [hyx] at this; exact this
  refine r_after X hS (rest := rest) (v := v) ?_ hpc kk
  intro Tt hT Xs
  obtain ⟨vm₁, X₁, hstep₁⟩ := Xs.invokespecialUp X.1 X.2.2.2.1 (hts _ w1) (hts _ w2) hnm hmethM hstM habM hno hdk hnid hps hsuper hsub (a := A q) (cell := cellB) (by rw [hT]; exact hcB)
    (fun z h => by rw [h] at hoB; cases hoB) (by rw [e9]; exact hkB) (g := F0 m0 pc ls st0) rfl (argsL := As) (rest := rest) (hn.trans (by have h2 := hy.2; rw [hsigM] at h2; exact (Option.some.inj h2).symm)) hst (by rw [X.2.1]; exact hdg)
  obtain ⟨v', ⟨U', l2, c2, s2⟩, X', ⟨g', mk', t, L, e1, e2, hq', h1, hL', h2, h3⟩, st⟩ := hK m0 meth c ⟨Tt.setVm vm₁, locs, 0, 0⟩ { F0 m0 pc ls st0 with stack := rest } (.invokespecial idx) mk (Value.ref (A q) :: As).toArray X₁ rfl (hs.trans X.2.2.1.symm) (by rw [X.2.1]; exact hdg) (lv_room (st := rest) hW) (X₁.named hnamed)
    ⟨Nat.zero_le _, Nat.zero_le _, cx_pre X hP hS (Tt.setVm vm₁) hT X₁.warmed⟩
  dsimp only [Pt.U, Pt.locs, Pt.cells, Pt.slots] at X' e1 e2 h1 h2 h3 st
  subst h1; subst h2; subst h3
  exact ⟨v', (Tt.setVm vm₁).calling g' mk' (Value.ref (A q) :: As).toArray, t, U', L, hT, X', hL', e1, e2, hq', fun target h => hstep₁ _ (by rw [doInvoke_state]; exact st.trans h)⟩
/-- a static method by the name that a class has from its superclass -/
theorem c_SI {idx n pc' : Nat} {x y : MethodName} {cc' : ByteArray} {nL' : Nat} {ret' : Option FieldType} {rm : Room} {As st0 : List Value} {v : Option Value} (owner : String)
    (X : CX lay N D cA A p s m0 args meth c own cc nL ret) (hP : va_P D vwCl (wsOf lay N cA A m) H) (hS : va_S (AW N A) s.heap H locs) (hM : Met0 l y cc' nL' ret' rm lay N D cA A As m v m1) (hyx : y = ⟨owner, x.name, x.desc⟩)
    (w1 : Cond.methodLink own idx x ∈ WL) (w3 : Cond.sameMethod x.cls owner x.name x.desc ∈ WL) (w2 : Cond.static y ∈ WL) (w4 : Cond.initialized y.cls ∈ WL) (w5 : Cond.code y cc' nL' ret' ∈ WL)
    (hy : y.cls ≠ "java/lang/invoke/MethodHandle" ∧ y.cls ≠ "java/lang/invoke/VarHandle" ∧ (parseMethodDescriptor y.desc).map (fun d => d.parameters.length) = some n) (hrm : rm.cells = 0 ∧ rm.slots = 0) (hR : rm.frames + 1 ≤ R.frames ∧ 8 + (nL' + 11) + rm.locals ≤ R.locals)
    (hn : As.length = n) (hs : ls.size = nL) (hst : st0 = As.reverse ++ rest) (hW : (rest.map fun v => v.category).sum ≤ 8) (hdg : decode cc pc = .ok (.invokestatic idx, 3)) (hpc : pc + 3 = pc')
    (kk : ∀ (H1 : Heap) (locs1 : List Loc), va_P D vwCl (wsOf lay N cA A m1) H1 → va_S (AW N A) s.heap H1 locs1 → W p l e R s m0 args below meth c H1 locs1 0 0 Q (F0 m0 pc' ls (v.toList ++ rest))) : W p l e R s m0 args below meth c H locs 0 0 Q (F0 m0 pc ls st0) := by
  have hts := X.2.2.2.2.1
  have hG : GoodIn WL (Cond.code y cc' nL' ret' :: WL) := good_c (ws := []) (fun w h => by cases h) w5
  have hini := hts _ w4
  have hcode := hts _ w5
  have hK : Back l R p e below s args y 3 8 (PreOf R 0 0 (va_Pc As (Pic lay N D cA A m))) (PostOf (fun _ st oc t => oc = .returned v ∧ Pic lay N D cA A m1 t ∧ va_F (AW N A) st t) 0 0 (AW N A)) :=
    back_of (bytes := cc') (maxL := nL') (ret := ret') hM Pic.blind hrm.1 hrm.2 hR.1 hR.2 (pay_in hts hG) List.mem_cons_self (fun a' U hW => word_at hW (Or.inl (by first | rfl | simp [Cond.onTables, Cond.keeps, Cond.steady])) hini)
  obtain ⟨mk, hnamed⟩ := Cond.code_named hcode
  obtain ⟨methM, cM, hmethM, -, -, -, -, -, -, hsigM⟩ := Cond.code_spec hnamed hcode
  have hstM : methM.isStatic = true := Cond.static_spec hnamed hmethM (hts _ w2)
  obtain ⟨kP, hkP, -⟩ := className_of_methodNamed hnamed
  have hiniP : kP.init = .initialized := Cond.initialized_spec (findClass_of_methodNamed hnamed) hkP hini
  have hnm : s.methodNamed? ⟨owner, x.name, x.desc⟩ = some mk := by rw [← hyx]; exact hnamed
  have hmh : owner ≠ "java/lang/invoke/MethodHandle" ∧ owner ≠ "java/lang/invoke/VarHandle" := by
    have h1 := hy.1
    have h2 := hy.2.1
    rw [hyx] at h1 h2
    exact ⟨h1, h2⟩
  refine r_after X hS (rest := rest) (v := v) ?_ hpc kk
  intro Tt hT Xs
  obtain ⟨vm₁, X₁, hstep₁⟩ := su_step Xs X.1 X.2.2.2.1 (hts _ w1) (hts _ w3) hmh hnm hmethM hstM hkP hiniP (g := F0 m0 pc ls st0) rfl (argsL := As) (rest := rest) (hn.trans (by have h2 := hy.2.2; rw [hsigM] at h2; exact (Option.some.inj h2).symm)) hst (by rw [X.2.1]; exact hdg)
  obtain ⟨v', ⟨U', l2, c2, s2⟩, X', ⟨g', mk', t, L, e1, e2, hq', h1, hL', h2, h3⟩, st⟩ := hK m0 meth c ⟨Tt.setVm vm₁, locs, 0, 0⟩ { F0 m0 pc ls st0 with stack := rest } (.invokestatic idx) mk As.toArray X₁ rfl (hs.trans X.2.2.1.symm) (by rw [X.2.1]; exact hdg) (lv_room (st := rest) hW) (X₁.named hnamed)
    ⟨Nat.zero_le _, Nat.zero_le _, cx_pre X hP hS (Tt.setVm vm₁) hT X₁.warmed⟩
  dsimp only [Pt.U, Pt.locs, Pt.cells, Pt.slots] at X' e1 e2 h1 h2 h3 st
  subst h1; subst h2; subst h3
  exact ⟨v', (Tt.setVm vm₁).calling g' mk' As.toArray, t, U', L, hT, X', hL', e1, e2, hq', fun target h => hstep₁ _ (fun acts => by rw [doInvoke_state]; exact st.trans h)⟩
end RW3
