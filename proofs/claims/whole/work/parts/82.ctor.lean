/-! the constructors' ground: a constructor makes its cells one behind the other, from its own object on -/
def upE (E : Nat → va_E) (k : Nat) (e : va_E) : Nat → va_E := fun q => bif Nat.beq q k then e else E q
def glE (E : Nat → va_E) (k : Nat) (F : Nat → va_E) : Nat → va_E := fun q => bif Nat.blt q k then E q else F (q - k)
theorem upE_same {E : Nat → va_E} {k : Nat} {e : va_E} : upE E k e k = e := by simp [upE]
theorem upE_ne {E : Nat → va_E} {k q : Nat} {e : va_E} (h : q ≠ k) : upE E k e q = E q := by
  unfold upE
  rw [show Nat.beq q k = false from by
    cases hb : Nat.beq q k with
    | false => rfl
    | true => exact absurd (Nat.eq_of_beq_eq_true hb) h]
  rfl
theorem glE_lt {E F : Nat → va_E} {k q : Nat} (h : q < k) : glE E k F q = E q := by
  unfold glE
  rw [show Nat.blt q k = true from Nat.ble_eq_true_of_le h]
  rfl
theorem glE_ge {E F : Nat → va_E} {k q : Nat} (h : k ≤ q) : glE E k F q = F (q - k) := by
  unfold glE
  rw [show Nat.blt q k = false from by
    cases hb : Nat.blt q k with
    | false => rfl
    | true => exact absurd (Nat.le_of_ble_eq_true hb) (by omega)]
  rfl
def wsR (h0 n : Nat) (E : Nat → va_E) : va_W := (List.range n).map (fun k => (h0 + k, E k))
abbrev Fz (h0 : Nat) : Nat → Prop := fun q => h0 ≤ q
section WSR
variable {h0 n k : Nat} {E : Nat → va_E}
theorem wsR_get (hk : k < n) : (wsR h0 n E)[k]? = some (h0 + k, E k) := by
  unfold wsR
  rw [List.getElem?_map, List.getElem?_range hk]
  rfl
theorem wsR_len : (wsR h0 n E).length = n := by unfold wsR; rw [List.length_map, List.length_range]
theorem wsR_inv {q : Nat} {w : Nat × va_E} (h : (wsR h0 n E)[q]? = some w) : q < n ∧ w = (h0 + q, E q) := by
  by_cases hq : q < n
  · rw [wsR_get hq] at h
    cases h
    exact ⟨hq, rfl⟩
  · have h2 : (wsR h0 n E)[q]? = none := List.getElem?_eq_none (by rw [wsR_len]; omega)
    rw [h2] at h
    cases h
theorem wsR_set {e : va_E} (hk : k < n) : (wsR h0 n E).set k (h0 + k, e) = wsR h0 n (upE E k e) := by
  apply List.ext_getElem?
  intro q
  by_cases hq : q = k
  · subst hq
    rw [List.getElem?_set_self (by rw [wsR_len]; exact hk), wsR_get hk, upE_same]
  · rw [List.getElem?_set_ne (Ne.symm hq)]
    by_cases h : q < n
    · rw [wsR_get h, wsR_get h, upE_ne hq]
    · rw [List.getElem?_eq_none (by rw [wsR_len]; omega), List.getElem?_eq_none (by rw [wsR_len]; omega)]
theorem wsR_D : va_D (Fz h0) (wsR h0 n E) := by
  refine ⟨fun i j a b hi hj h => ?_, fun q w hq => ?_⟩
  · obtain ⟨h1, rfl⟩ := wsR_inv hi
    obtain ⟨h2, rfl⟩ := wsR_inv hj
    exact Nat.add_left_cancel h
  · obtain ⟨h1, rfl⟩ := wsR_inv hq
    exact Nat.le_add_right _ _
theorem wsR_P {D : va_G} {H : Heap} (h : ∀ k, k < n → va_at D vwCl (h0 + k, E k) H) : va_P D vwCl (wsR h0 n E) H := by
  intro q w hq
  obtain ⟨h1, rfl⟩ := wsR_inv hq
  exact h q h1
theorem wsR_at {D : va_G} {H : Heap} (h : va_P D vwCl (wsR h0 n E) H) (hk : k < n) : va_at D vwCl (h0 + k, E k) H := h k _ (wsR_get hk)
end WSR
/-- the words that are no words of WL -/
def xNest : List (String × Nat × MethodName) := [("BenchTowels", 30, yX4_init), ("BenchTowels", 45, yX6_init), ("BenchTowels", 48, yX0_init), ("BenchTowels", 51, yX9_init), ("BenchTowels", 54, yX5_init), ("BenchTowels", 57, yX2_init), ("BenchTowels", 60, yX10_init), ("BenchTowels$Alone", 1, yX6_init), ("BenchTowels$Held", 1, yX6_init), ("BenchTowels$Paired", 1, yX9_init), ("BenchTowels$Shared", 1, yX6_init), ("BenchTowels$Unasked", 1, yX2_init)]
def xCast : List String := [RX0, RX9, RX5, RX2, RX10]
def va_AA (U : State) : Prop := (Cond.arrayOver (.array .int)).before #[] U = true
theorem va_AA.moved {u U : State} (hvm : u.vm.Alike U.vm) (h : va_AA u) : va_AA U := by
  obtain ⟨comp, c, k, h1, h2, h3, h4, h5⟩ := arrayOverA_spec h
  obtain ⟨k', hk', he⟩ := hvm.2.2 _ _ h3
  have hi : (U.vm.classes.findIdx? fun (x : Class) => match x.kind with | .array component _ => component == comp | _ => false) = some c := by
    rw [hvm.findIdx?_eq _ (fun _ => rfl)]
    exact h2
  have hkind : k'.kind = .array comp (.array .int) := by rw [he]; exact h4
  have f1 : U.vm.findClass (FieldType.array .int).toString = some comp := by rw [hvm.findClass]; exact h1
  have f2 : U.vm.findClass ("[" ++ (FieldType.array .int).toString) = some c := by rw [hvm.findClass]; exact h5
  unfold va_AA Cond.before Cond.holds
  simp only [Cond.value]
  rw [f1, Option.bind_some]
  refine (congrArg (fun o : Option Nat => (o.bind (fun c => (U.vm.classes[c]?).map fun (k : Class) => match k.kind with | .array _ ty => decide (ty = FieldType.array .int) && decide (U.vm.findClass ("[" ++ (FieldType.array .int).toString) = some c) | _ => false) == some true)) hi).trans ?_
  simp [hk', hkind, f2]
def VX (U : State) : Prop := (∀ q ∈ xNest, va_Nw (.methodLinkNest q.1 q.2.1 q.2.2 "BenchTowels") U) ∧ (∀ C ∈ xCast, va_Nw (.castable C "BenchTowels$Plain") U) ∧ va_AO "BenchTowels$Plain" U ∧ va_AO "BenchTowels$Gym" U ∧ va_AA U
theorem VX.warm {s U : State} (hW : s.WarmedH U.vm) (h : VX s) : VX U := ⟨fun q hq => va_Nw.warmM hW (h.1 q hq), fun C hC => va_Nw.warmC hW (h.2.1 C hC), va_AO.moved hW.alike h.2.2.1, va_AO.moved hW.alike h.2.2.2.1, va_AA.moved hW.alike h.2.2.2.2⟩
theorem VX.same {u U : State} (hv : u.vm = U.vm) (h : VX u) : VX U := by
  have hw : u.vm.Alike U.vm := by rw [hv]; exact Vm.Alike.refl _
  exact ⟨fun q hq => va_Nw.same rfl hv (h.1 q hq), fun C hC => va_Nw.same rfl hv (h.2.1 C hC), va_AO.moved hw h.2.2.1, va_AO.moved hw h.2.2.2.1, va_AA.moved hw h.2.2.2.2⟩
def PreC (D : va_G) (cA : Nat → ClassId) (h0 : Nat) (e0 : va_E) (U : State) : Prop := U.heap.size = h0 + 1 ∧ va_at D vwCl (h0, e0) U.heap ∧ va_K D vwCl (tysOf cA) U ∧ VX U
theorem PreC.blind {D : va_G} {cA : Nat → ClassId} {h0 : Nat} {e0 : va_E} {As : List Value} : FrameBlind (va_Pc As (PreC D cA h0 e0)) := by
  intro a U g mk q
  obtain ⟨h1, h2, h3, h4, h5⟩ := q
  exact ⟨h1, h2, h3, va_K.moved (u := U) (U := U.calling g mk a) (Vm.Alike.refl U.vm) h4, VX.same (u := U) (U := U.calling g mk a) rfl h5⟩
/-- a constructor's contract: n cells from h0 on -/
def Ctor (l : Launch) (y : MethodName) (cc : ByteArray) (nL : Nat) (rm : Room) (D : va_G) (cA : Nat → ClassId) (h0 : Nat) (As : List Value) (e0 : va_E) (n : Nat) (E : Nat → va_E) (mc ms : Nat) : Prop :=
  Met l y (Cond.code y cc nL none :: WL) rm (va_Pc (.ref h0 :: As) (PreC D cA h0 e0)) (fun _ st oc t => oc = .returned none ∧ (t.heap.size = h0 + n ∧ va_P D vwCl (wsR h0 n E) t.heap) ∧ va_F (Fz h0) st t) mc ms (Fz h0)
def CK (D : va_G) (cA : Nat → ClassId) (p : Program) (s : State) (m0 : MethodId) (args : Array Value) (meth : Method) (c : Code) (own : String) (cc : ByteArray) (nL : Nat) : Prop :=
  p.tables.exec = Jvm.exec ∧ c.code = cc ∧ c.maxLocals = nL ∧ s.vm.findClass own = some m0.cls ∧ (∀ w ∈ WL, w.before args s = true) ∧ va_K D vwCl (tysOf cA) s ∧ VX s
def KS (D : va_G) (E : Nat → va_E) (h0 n : Nat) (H0 H : Heap) (locs : List Loc) : Prop := H.size = h0 + n ∧ va_P D vwCl (wsR h0 n E) H ∧ va_S (Fz h0) H0 H locs
def fs0 (nf : Nat) (ty0 : Nat → FieldType) : List Value := (List.range nf).map (fun j => defaultValue (ty0 j))
theorem fs0_V {nf : Nat} {ty0 : Nat → FieldType} {j : Nat} (hj : j < nf) : defaultValue (ty0 j) = vp_V (fs0 nf ty0) j := by
  unfold vp_V fs0
  simp [hj]
theorem objcode_eq : object_method_1_code = (⟨#[0xb1]⟩ : ByteArray) := by decide +kernel
section CT
variable {p : Program} {l : Launch} {e : Env} {R : Room} {s : State} {m0 : MethodId} {args : Array Value} {below : List Frame} {meth : Method} {c : Code} {H : Heap} {locs : List Loc} {Q : State → Prop}
variable {D : va_G} {cA : Nat → ClassId} {own : String} {cc : ByteArray} {nL : Nat} {pc : Nat} {ls : Array Slot} {rest : List Value} {E : Nat → va_E} {h0 n : Nat} {H0 : Heap} {cells slots : Nat}
theorem ks_push {H1 : Heap} {e1 : va_E} (h : KS D E h0 n H0 H locs) (z : H1.size = h0 + n + 1) (ha : va_at D vwCl (h0 + n, e1) H1) (ho : ∀ q, q < h0 + n → H1[q]? = H[q]?) : KS D (upE E n e1) h0 (n + 1) H0 H1 locs := by
  obtain ⟨a, b, c1, c2, c3⟩ := h
  refine ⟨by omega, wsR_P (fun k hk => ?_), by omega, fun q h1 h2 => (ho q (by omega)).trans (c2 q h1 h2), c3⟩
  by_cases e : k = n
  · subst e; rw [upE_same]; exact ha
  · rw [upE_ne e]
    exact (wsR_at b (show k < n by omega)).kept (ho _ (by show h0 + k < _; omega))
theorem ks_set {H1 : Heap} {locs1 : List Loc} {k : Nat} {e1 : va_E} (h : KS D E h0 n H0 H locs) (hk : k < n) (z : H1.size = H.size) (hP : va_P D vwCl ((wsR h0 n E).set k (h0 + k, e1)) H1) (hS : va_S (Fz h0) H0 H1 locs1) : KS D (upE E k e1) h0 n H0 H1 locs1 := by
  rw [wsR_set hk] at hP
  exact ⟨by rw [z]; exact h.1, hP, hS⟩
theorem ks_size {H1 : Heap} {E1 : Nat → va_E} (h : KS D E h0 n H0 H locs) (hn : 0 < n) (hz : H1.size ≤ H.size ∨ True) : True := trivial
theorem k_get {ci nf : Nat} {C : String} {T : u_T} {ty0 : Nat → FieldType} (K : KC ci C T nf ty0) (j k : Nat) {idx : Nat} {fs : List Value} {v : Value} (X : CK D cA p s m0 args meth c own cc nL) (h : KS D E h0 n H0 H locs) (hk : k < n) (hE : E k = .inr (ci, fs)) (hj : j < nf) (hw : Cond.fieldLink own idx (T j).1 (T j).2.1 (T j).2.2.1 ∈ WL) (hv : fs[j]? = some v) (hd : decode cc pc = .ok (.getfield idx, 3))
    (kk : W p l e R s m0 args below meth c H locs cells slots Q (F0 m0 (pc + 3) ls (v :: rest))) : W p l e R s m0 args below meth c H locs cells slots Q (F0 m0 pc ls (.ref (h0 + k) :: rest)) :=
  va_get X.1 X.2.1 X.2.2.2.2.1 K.2.1 X.2.2.2.1 X.2.2.2.2.2.1 h.2.1 k (by rw [wsR_get hk, hE]) K.1 j hj (X.2.2.2.2.1 _ hw) (fun _ z => z) hv hd kk
theorem k_put {ci nf : Nat} {C : String} {T : u_T} {ty0 : Nat → FieldType} (K : KC ci C T nf ty0) (j k : Nat) {idx : Nat} {ty : FieldType} {fs : List Value} {v : Value} (X : CK D cA p s m0 args meth c own cc nL) (hi : meth.name = "<init>") (h : KS D E h0 n H0 H locs) (hk : k < n) (hE : E k = .inr (ci, fs)) (hj : j < nf) (hw : Cond.fieldLink own idx (T j).1 (T j).2.1 (T j).2.2.1 ∈ WL) (ho : (T j).1 = own)
    (hty : parseFieldDescriptor (T j).2.2.1 = some ty) (hn : narrow ty v = v) (hf : fits ty v = true) (hl : j < fs.length) (hd : decode cc pc = .ok (.putfield idx, 3))
    (kk : ∀ (H1 : Heap) (locs1 : List Loc), KS D (upE E k (.inr (ci, fs.set j v))) h0 n H0 H1 locs1 → W p l e R s m0 args below meth c H1 locs1 cells slots Q (F0 m0 (pc + 3) ls rest)) : W p l e R s m0 args below meth c H locs cells slots Q (F0 m0 pc ls (v :: .ref (h0 + k) :: rest)) := by
  have key : ∀ (H1 : Heap) (locs1 : List Loc), H1.size = H.size → va_P D vwCl ((wsR h0 n E).set k (h0 + k, .inr (ci, fs.set j v))) H1 → va_S (Fz h0) H0 H1 locs1 → W p l e R s m0 args below meth c H1 locs1 cells slots Q (F0 m0 (pc + 3) ls rest) := fun H1 locs1 z a b => kk H1 locs1 (ks_set h hk z a b)
  have hK := X.2.2.2.2.2.1
  have hts := X.2.2.2.2.1
  have hap := va_apart (own := own) hts K.2.1 ty0 K.2.2.1 K.2.2.2 hK K.1
  have he : (wsR h0 n E)[k]? = some (h0 + k, .inr (ci, fs)) := by rw [wsR_get hk, hE]
  obtain ⟨r, h1, cell, q1, q2, q3, q4⟩ := h.2.1 k _ he
  have hr : r = (C, T, nf) := Option.some.inj (h1.symm.trans K.1)
  subst hr
  obtain ⟨hS, hfc, kC, hkC, hkind⟩ := hK.1 ci _ K.1
  obtain ⟨cf, kf, fi, f, hif, hsl⟩ := hS j hj
  have hlay := hts _ (K.2.1 _ (u_in_lay hj))
  have hst := (u_facts hfc hkC (u_lays hts K.2.1 hj) hif).1
  cases hfin : (T j).2.2.2 with
  | true =>
    unfold u_lay at hlay
    rw [if_pos hfin] at hlay
    have hcf : m0.cls = cf := by
      obtain ⟨_, _, c', _, _, _, -, -, hf', -, -, -, hown2, -⟩ := Cond.laysFinal_spec hlay
      have e1 : c' = cf := by have := hif.symm.trans hf'; simp at this; exact this.1.symm
      rw [ho] at hown2
      rw [← e1]; exact Option.some.inj (X.2.2.2.1.symm.trans hown2)
    have h6 := u_fits hfc hkC hkind (Or.inr hlay) hif hty hn hf
    refine W.putFinK X.1 X.2.1 X.2.2.2.1 (hts _ hw) hif hst hcf hi (by rw [q2]; exact h6) q1 q3 (by rw [hsl]; exact k2_hasslot (q4 j hj)) rfl rfl hd fun H' e1 e2 e3 => ?_
    rw [hsl] at e1 ⊢
    exact key H' _ e2 (h.2.1.set wsR_D he ⟨_, K.1, t_OB.to (V := updV (vp_V fs) j v) ⟨_, e1, q2, q3, t_set q4 hap hj v⟩ (fun i _ => vp_updV_set hl v i)⟩ e3) (h.2.2.put e2 e3 (Nat.le_add_right _ _))
  | false =>
    unfold u_lay at hlay
    rw [if_neg (by rw [hfin]; decide)] at hlay
    have h6 := u_store hfc hkC hkind hlay hif hty hn hf
    refine W.putK X.1 X.2.1 (f := f) ⟨X.2.2.2.1, hts _ hw, ⟨_, _, _, hif⟩, hst⟩ (by rw [q2]; exact h6) q1 q3 (by rw [hsl]; exact k2_hasslot (q4 j hj)) rfl rfl hd fun H' e1 e2 e3 => ?_
    rw [hsl] at e1 ⊢
    exact key H' _ e2 (h.2.1.set wsR_D he ⟨_, K.1, t_OB.to (V := updV (vp_V fs) j v) ⟨_, e1, q2, q3, t_set q4 hap hj v⟩ (fun i _ => vp_updV_set hl v i)⟩ e3) (h.2.2.put e2 e3 (Nat.le_add_right _ _))
theorem k_new {ci nf : Nat} {C : String} {T : u_T} {ty0 : Nat → FieldType} (K : KC ci C T nf ty0) {idx cells' slots' : Nat} (X : CK D cA p s m0 args meth c own cc nL) (h : KS D E h0 n H0 H locs) (w1 : Cond.classLink own idx C ∈ WL) (w2 : Cond.instantiable C nf ∈ WL) (w3 : Cond.initialized C ∈ WL) (ec : cells + 1 = cells') (es : slots + nf = slots') (hc : cells' ≤ R.cells) (hs : slots' ≤ R.slots) (hd : decode cc pc = .ok (.new idx, 3))
    (kk : ∀ H1 : Heap, KS D (upE E n (.inr (ci, fs0 nf ty0))) h0 (n + 1) H0 H1 locs → W p l e R s m0 args below meth c H1 locs cells' slots' Q (F0 m0 (pc + 3) ls (.ref (h0 + n) :: rest))) : W p l e R s m0 args below meth c H locs cells slots Q (F0 m0 pc ls rest) := by
  subst ec; subst es
  have hKn := X.2.2.2.2.2.1.1 ci _ K.1
  refine W.newcK X.1 X.2.1 X.2.2.2.1 (X.2.2.2.2.1 _ w1) (X.2.2.2.2.1 _ w2) (X.2.2.2.2.1 _ w3) rfl hd hc hs hKn.2.1 h.1 fun H1 kC hkC e1 z1 o1 => ?_
  exact kk H1 (ks_push h z1 ⟨_, K.1, (u_born ty0 X.2.2.2.2.1 K.2.1 hKn hkC e1 K.2.2.1).to (fun j hj => fs0_V hj)⟩ o1)
theorem k_newi {v : Int32} {N cells' slots' : Nat} (X : CK D cA p s m0 args meth c own cc nL) (h : KS D E h0 n H0 H locs) (w : Cond.arrayClass .int ∈ WL) (hv : ¬ v < 0) (hN : v.toNatClampNeg = N) (hB : N ≤ 1000) (ec : cells + 1 = cells') (es : slots + N = slots') (hc : cells' ≤ R.cells) (hs : slots' ≤ R.slots) (hd : decode cc pc = .ok (.newarray .int, 2))
    (kk : ∀ H1 : Heap, KS D (upE E n (arI cA N (fun _ => 0))) h0 (n + 1) H0 H1 locs → W p l e R s m0 args below meth c H1 locs cells' slots' Q (F0 m0 (pc + 2) ls (.ref (h0 + n) :: rest))) : W p l e R s m0 args below meth c H locs cells slots Q (F0 m0 pc ls (.int v :: rest)) := by
  subst ec; subst es
  refine va_newaK (atype := .int) X.1 X.2.1 (X.2.2.2.2.1 _ w) rfl hd rfl hv hN (by show N * 4 ≤ _; omega) hc hs h.1 fun H1 cB e1 z1 o1 hAr hNm => ?_
  have hb : cB = cA 0 := Option.some.inj (hNm.symm.trans (X.2.2.2.2.2.1.2 0 _ rfl).2)
  subst hb
  exact kk H1 (ks_push h z1 e1 o1)
theorem k_newb {v : Int32} {N cells' slots' : Nat} (X : CK D cA p s m0 args meth c own cc nL) (h : KS D E h0 n H0 H locs) (w : Cond.arrayClass .byte ∈ WL) (hv : ¬ v < 0) (hN : v.toNatClampNeg = N) (hB : N ≤ 1000) (ec : cells + 1 = cells') (es : slots + N = slots') (hc : cells' ≤ R.cells) (hs : slots' ≤ R.slots) (hd : decode cc pc = .ok (.newarray .byte, 2))
    (kk : ∀ H1 : Heap, KS D (upE E n (.inl (cA 1, N, .inl (fun _ => 0)))) h0 (n + 1) H0 H1 locs → W p l e R s m0 args below meth c H1 locs cells' slots' Q (F0 m0 (pc + 2) ls (.ref (h0 + n) :: rest))) : W p l e R s m0 args below meth c H locs cells slots Q (F0 m0 pc ls (.int v :: rest)) := by
  subst ec; subst es
  refine va_newaK (atype := .byte) X.1 X.2.1 (X.2.2.2.2.1 _ w) rfl hd rfl hv hN (by show N * 1 ≤ _; omega) hc hs h.1 fun H1 cB e1 z1 o1 hAr hNm => ?_
  have hb : cB = cA 1 := Option.some.inj (hNm.symm.trans (X.2.2.2.2.2.1.2 1 _ rfl).2)
  subst hb
  exact kk H1 (ks_push h z1 e1 o1)
theorem k_anew {C : String} {t : Nat} {v : Int32} {N idx cells' slots' : Nat} (ht : (tysOf cA)[t]? = some (cA t, .object C)) (hO : va_AO C s) (X : CK D cA p s m0 args meth c own cc nL) (h : KS D E h0 n H0 H locs) (w : Cond.classLink own idx C ∈ WL) (hv : ¬ v < 0) (hN : v.toNatClampNeg = N) (hB : N ≤ 1000) (ec : cells + 1 = cells') (es : slots + N = slots') (hc : cells' ≤ R.cells) (hs : slots' ≤ R.slots) (hd : decode cc pc = .ok (.anewarray idx, 3))
    (kk : ∀ H1 : Heap, KS D (upE E n (arQ (cA t) N (fun _ => none))) h0 (n + 1) H0 H1 locs → W p l e R s m0 args below meth c H1 locs cells' slots' Q (F0 m0 (pc + 3) ls (.ref (h0 + n) :: rest))) : W p l e R s m0 args below meth c H locs cells slots Q (F0 m0 pc ls (.int v :: rest)) := by
  subst ec; subst es; subst hN
  refine W.anew X.1 X.2.1 X.2.2.2.1 (X.2.2.2.2.1 _ w) (va_AO.use hO) rfl hd rfl hv (by omega) hc hs fun cB kA comp h1 h2 h3 h4 => ?_
  obtain ⟨_, _, -, -, -, k4⟩ := (X.2.2.2.2.2.1.2 t _ ht).2
  have hb : cB = cA t := Option.some.inj (h1.symm.trans k4)
  subst hb
  have hz := h.1
  rw [hz]
  refine kk _ (ks_push h (by rw [Array.size_push, hz]) ?_ (fun q hq => by rw [Array.getElem?_push, if_neg (by rw [hz]; exact Nat.ne_of_lt hq)]))
  show (H.push _)[h0 + n]? = some (vp_cell _ _)
  rw [← hz, vp_cell_q, ← arrV_new]
  simp [va_rf]
theorem k_iast {N k iN : Nat} {f : Nat → Int32} {i v : Int32} (X : CK D cA p s m0 args meth c own cc nL) (h : KS D E h0 n H0 H locs) (hk : k < n) (hE : E k = arI cA N f) (hiN : i.toNatClampNeg = iN) (hin : vp_in i N) (hd : decode cc pc = .ok (.iastore, 1))
    (kk : ∀ (H1 : Heap) (locs1 : List Loc), KS D (upE E k (arI cA N (upd f iN v))) h0 n H0 H1 locs1 → W p l e R s m0 args below meth c H1 locs1 cells slots Q (F0 m0 (pc + 1) ls rest)) : W p l e R s m0 args below meth c H locs cells slots Q (F0 m0 pc ls (.int v :: .int i :: .ref (h0 + k) :: rest)) := by
  subst hiN
  have he : (wsR h0 n E)[k]? = some (h0 + k, arI cA N f) := by rw [wsR_get hk, hE]
  refine W.iast X.1 X.2.1 (h.2.1 k _ he) ((X.2.2.2.2.2.1.2 0 _ rfl).1 N (fun j => .int (f j))) (fun q => by cases q) (by show ¬ (i < 0 ∨ (arrV _ _ _).slots.size ≤ _); rw [arrV_size]; exact hin) rfl rfl hd fun H1 e z oq => ?_
  refine kk H1 _ (ks_set h hk z (h.2.1.set wsR_D he ?_ oq) (h.2.2.put z oq (Nat.le_add_right _ _)))
  show H1[h0 + k]? = some (arrV (cA 0) N fun j => .int (upd f i.toNatClampNeg v j))
  rw [e]
  show some ((arrV (cA 0) N fun j => .int (f j)).setSlot _ _) = _
  rw [arrV_store]
  congr 2
  funext q
  by_cases hq : q = i.toNatClampNeg
  · subst hq; simp [updV, upd]
  · simp [updV, upd, hq]
end CT
