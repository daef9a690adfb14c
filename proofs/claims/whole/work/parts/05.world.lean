/-! the memory: a number a place and a slot; a layout says which cell a place is; a world's heap is a layout over a memory -/
abbrev Mm : Type := Nat → Nat → Int32
def upA (m : Mm) (p : Nat) (f : Nat → Int32) : Mm := fun q => if q = p then f else m q
def up (m : Mm) (p k : Nat) (v : Int32) : Mm := upA m p (upd (m p) k v)
theorem upA_same {m : Mm} {p : Nat} {f : Nat → Int32} : upA m p f p = f := if_pos rfl
theorem upA_ne {m : Mm} {p q : Nat} {f : Nat → Int32} (h : q ≠ p) : upA m p f q = m q := if_neg h
abbrev ix (i : Int32) : Nat := i.toNatClampNeg
/-! partial answers -/
def gx {α : Type} (i : Int32) (n : Nat) (k : Option α) : Option α := if i < 0 ∨ n ≤ i.toNatClampNeg then none else k
def gz {α : Type} (b : Int32) (k : Option α) : Option α := if b = 0 then none else k
def gzl {α : Type} (b : Int64) (k : Option α) : Option α := if b = 0 then none else k
def gb {α : Type} (v : Int32) (k : Option α) : Option α := if v = 0 ∨ v = 1 then k else none
def bd {α β : Type} (x : Option (α × Mm)) (k : α → Mm → Option β) : Option β := match x with
  | none => none
  | some (a, m) => k a m
def lt {α β : Type} (v : α) (k : α → Option β) : Option β := k v
theorem gx_some {α : Type} {i : Int32} {n : Nat} {k : Option α} {r : α} (h : gx i n k = some r) : vp_in i n ∧ k = some r := by
  unfold gx at h
  by_cases c : i < 0 ∨ n ≤ i.toNatClampNeg
  · rw [if_pos c] at h; cases h
  · rw [if_neg c] at h; exact ⟨c, h⟩
theorem gz_some {α : Type} {b : Int32} {k : Option α} {r : α} (h : gz b k = some r) : ¬ b = 0 ∧ k = some r := by
  unfold gz at h
  by_cases c : b = 0
  · rw [if_pos c] at h; cases h
  · rw [if_neg c] at h; exact ⟨c, h⟩
theorem gzl_some {α : Type} {b : Int64} {k : Option α} {r : α} (h : gzl b k = some r) : ¬ b = 0 ∧ k = some r := by
  unfold gzl at h
  by_cases c : b = 0
  · rw [if_pos c] at h; cases h
  · rw [if_neg c] at h; exact ⟨c, h⟩
theorem gb_some {α : Type} {v : Int32} {k : Option α} {r : α} (h : gb v k = some r) : (v = 0 ∨ v = 1) ∧ k = some r := by
  unfold gb at h
  by_cases c : v = 0 ∨ v = 1
  · rw [if_pos c] at h; exact ⟨c, h⟩
  · rw [if_neg c] at h; cases h
theorem bd_some {α β : Type} {x : Option (α × Mm)} {k : α → Mm → Option β} {r : β} (h : bd x k = some r) : ∃ a m, x = some (a, m) ∧ k a m = some r := by
  cases x with
  | none => cases h
  | some q => exact ⟨q.1, q.2, rfl, h⟩
theorem lt_some {α β : Type} {v : α} {k : α → Option β} {r : β} (h : lt v k = some r) : ∃ x, x = v ∧ k x = some r := ⟨v, rfl, h⟩
theorem vpc {i : Int32} {n : Nat} (h : decide (i < 0 ∨ n ≤ i.toNatClampNeg) = false) : vp_in i n := of_decide_eq_false h
theorem vp_lt {i : Int32} {n : Nat} (h : vp_in i n) : i.toNatClampNeg < n := Nat.not_le.mp fun q => h (Or.inr q)
/-! worlds -/
abbrev Lay : Type := (Nat → ClassId) → (Nat → Nat) → Nat → (Nat → Int32) → va_E
def wsOf (lay : Lay) (N : Nat) (cA : Nat → ClassId) (A : Nat → Nat) (m : Mm) : va_W := (List.range N).map (fun p => (A p, lay cA A p (m p)))
def AW (N : Nat) (A : Nat → Nat) : Nat → Prop := fun q => ∃ p, p < N ∧ q = A p
def InjA (N : Nat) (A : Nat → Nat) : Prop := ∀ p q, p < N → q < N → A p = A q → p = q
def tysOf (cA : Nat → ClassId) : List (ClassId × FieldType) := [(cA 0, .int), (cA 1, .byte), (cA 2, .array .int), (cA 3, .object "BenchTowels$Plain"), (cA 4, .object "BenchTowels$Gym")]
section WS
variable {lay : Lay} {N : Nat} {cA : Nat → ClassId} {A : Nat → Nat} {m : Mm} {p : Nat} {f : Nat → Int32}
theorem ws_get (hp : p < N) : (wsOf lay N cA A m)[p]? = some (A p, lay cA A p (m p)) := by
  unfold wsOf
  rw [List.getElem?_map, List.getElem?_range hp]
  rfl
theorem ws_inv {q : Nat} {x : Nat × va_E} (h : (wsOf lay N cA A m)[q]? = some x) : q < N ∧ x = (A q, lay cA A q (m q)) := by
  by_cases hq : q < N
  · rw [ws_get hq] at h
    cases h
    exact ⟨hq, rfl⟩
  · have h2 : (wsOf lay N cA A m)[q]? = none := List.getElem?_eq_none (by unfold wsOf; rw [List.length_map, List.length_range]; omega)
    rw [h2] at h
    cases h
theorem ws_len : (wsOf lay N cA A m).length = N := by unfold wsOf; rw [List.length_map, List.length_range]
theorem ws_set (hp : p < N) : (wsOf lay N cA A m).set p (A p, lay cA A p f) = wsOf lay N cA A (upA m p f) := by
  apply List.ext_getElem?
  intro q
  by_cases hq : q = p
  · subst hq
    rw [List.getElem?_set_self (by rw [ws_len]; exact hp), ws_get hp, upA_same]
  · rw [List.getElem?_set_ne (Ne.symm hq)]
    by_cases h : q < N
    · rw [ws_get h, ws_get h, upA_ne hq]
    · rw [List.getElem?_eq_none (by rw [ws_len]; omega), List.getElem?_eq_none (by rw [ws_len]; omega)]
theorem ws_D (hI : InjA N A) : va_D (AW N A) (wsOf lay N cA A m) := by
  refine ⟨fun i j x y hi hj h => ?_, fun k q hk => ?_⟩
  · obtain ⟨h1, rfl⟩ := ws_inv hi
    obtain ⟨h2, rfl⟩ := ws_inv hj
    exact hI i j h1 h2 h
  · obtain ⟨h1, rfl⟩ := ws_inv hk
    exact ⟨k, h1, rfl⟩
end WS
/-! what stands outside the worlds: the static arrays, the text of the words, links of nest mates -/
def sLeast : Nat → Int32 := fun j => ([1, 0, 1, 0, 0] : List Int32).getD j 0
def sMost : Nat → Int32 := fun j => ([5, 5, 9, 2, 9] : List Int32).getD j 0
def sMach : Nat → Int32 := fun j => ([9, 65535] : List Int32).getD j 0
def sIS : Nat → Int32 := fun j => ([1, 3, 5, 13, 17, 49] : List Int32).getD j 0
def sWordsT : String := "set     alone   shared  paired  held    unasked lift    ease    wait    if      or      and     not     minute  weight  tired   left    number  "
def sWords : List Int32 := [115, 101, 116, 32, 32, 32, 32, 32, 97, 108, 111, 110, 101, 32, 32, 32, 115, 104, 97, 114, 101, 100, 32, 32, 112, 97, 105, 114, 101, 100, 32, 32, 104, 101, 108, 100, 32, 32, 32, 32, 117, 110, 97, 115, 107, 101, 100, 32, 108, 105, 102, 116, 32, 32, 32, 32, 101, 97, 115, 101, 32, 32, 32, 32, 119, 97, 105, 116, 32, 32, 32, 32, 105, 102, 32, 32, 32, 32, 32, 32, 111, 114, 32, 32, 32, 32, 32, 32, 97, 110, 100, 32, 32, 32, 32, 32, 110, 111, 116, 32, 32, 32, 32, 32, 109, 105, 110, 117, 116, 101, 32, 32, 119, 101, 105, 103, 104, 116, 32, 32, 116, 105, 114, 101, 100, 32, 32, 32, 108, 101, 102, 116, 32, 32, 32, 32, 110, 117, 109, 98, 101, 114, 32, 32]
def SF (N : Nat) (A : Nat → Nat) (U : State) (H : Heap) : Prop :=
  (va_Z "BenchTowels" "LEAST_OF_SET" "[I" (.ref (A 1000)) (AW N A) U H ∧ va_T .int (A 1000) 5 (fun j => .int (sLeast j)) (AW N A) U H) ∧
  (va_Z "BenchTowels" "MOST_OF_SET" "[I" (.ref (A 1001)) (AW N A) U H ∧ va_T .int (A 1001) 5 (fun j => .int (sMost j)) (AW N A) U H) ∧
  (va_Z "BenchTowels" "MOST_OF_MACHINE" "[I" (.ref (A 1002)) (AW N A) U H ∧ va_T .int (A 1002) 2 (fun j => .int (sMach j)) (AW N A) U H) ∧
  (va_Z "BenchTowels" "IS" "[I" (.ref (A 1003)) (AW N A) U H ∧ va_T .int (A 1003) 6 (fun j => .int (sIS j)) (AW N A) U H) ∧
  (va_Nw (.fieldLinkNest "BenchTowels$Rules" 56 "BenchTowels" "IS" "[I" "BenchTowels") U ∧ va_Nw (.methodLinkNest "BenchTowels$Gym" 147 ⟨"BenchTowels", "leastOf", "(I)I"⟩ "BenchTowels") U) ∧
  (vk_R "BenchTowels$Rules" 103 sWordsT (A 1004) U ∧ vk_S 1 [144] [sWords] (fun _ => A 1004) (fun _ => A 1005) (AW N A) U H) ∧
  (va_Z "java/lang/String" "COMPACT_STRINGS" "Z" (.int 1) (AW N A) U H ∧ va_Zq "jdk/internal/util/Preconditions" "SIOOBE_FORMATTER" "Ljava/util/function/BiFunction;" (AW N A) U H)
theorem SF.warm {N : Nat} {A : Nat → Nat} {s U : State} {H : Heap} (hW : s.WarmedH U.vm) (h : SF N A s H) : SF N A U H := by
  obtain ⟨⟨a1, a2⟩, ⟨b1, b2⟩, ⟨c1, c2⟩, ⟨d1, d2⟩, ⟨e1, e2⟩, ⟨f1, f2⟩, ⟨g1, g2⟩⟩ := h
  have hv := hW.alike
  exact ⟨⟨va_Z.moved hv a1, va_T.moved hv a2⟩, ⟨va_Z.moved hv b1, va_T.moved hv b2⟩, ⟨va_Z.moved hv c1, va_T.moved hv c2⟩, ⟨va_Z.moved hv d1, va_T.moved hv d2⟩, ⟨va_Nw.warmF hW e1, va_Nw.warmM hW e2⟩, ⟨vk_R.warm hW f1, vk_S.moved hv f2⟩, ⟨va_Z.moved hv g1, va_Zq.moved hv g2⟩⟩
theorem SF.same {N : Nat} {A : Nat → Nat} {u U : State} {H : Heap} (hv : u.vm = U.vm) (h : SF N A u H) : SF N A U H := by
  obtain ⟨⟨a1, a2⟩, ⟨b1, b2⟩, ⟨c1, c2⟩, ⟨d1, d2⟩, ⟨e1, e2⟩, ⟨f1, f2⟩, ⟨g1, g2⟩⟩ := h
  have hw : u.vm.Alike U.vm := by rw [hv]; exact Vm.Alike.refl _
  exact ⟨⟨va_Z.moved hw a1, va_T.moved hw a2⟩, ⟨va_Z.moved hw b1, va_T.moved hw b2⟩, ⟨va_Z.moved hw c1, va_T.moved hw c2⟩, ⟨va_Z.moved hw d1, va_T.moved hw d2⟩, ⟨va_Nw.same rfl hv e1, va_Nw.same rfl hv e2⟩, ⟨vk_R.same hv.symm f1, vk_S.moved hw f2⟩, ⟨va_Z.moved hw g1, va_Zq.moved hw g2⟩⟩
theorem SF.kept {N : Nat} {A : Nat → Nat} {U : State} {H H1 : Heap} (h : SF N A U H) (hq : ∀ a : Nat, a < H.size → ¬ AW N A a → H1[a]? = H[a]?) : SF N A U H1 := by
  obtain ⟨⟨a1, a2⟩, ⟨b1, b2⟩, ⟨c1, c2⟩, ⟨d1, d2⟩, ⟨e1, e2⟩, ⟨f1, f2⟩, ⟨g1, g2⟩⟩ := h
  exact ⟨⟨a1.kept hq, a2.kept hq⟩, ⟨b1.kept hq, b2.kept hq⟩, ⟨c1.kept hq, c2.kept hq⟩, ⟨d1.kept hq, d2.kept hq⟩, ⟨e1, e2⟩, ⟨f1, f2.kept hq⟩, ⟨g1.kept hq, g2.kept hq⟩⟩
def Pic (lay : Lay) (N : Nat) (D : va_G) (cA : Nat → ClassId) (A : Nat → Nat) (m : Mm) (U : State) : Prop := va_P D vwCl (wsOf lay N cA A m) U.heap ∧ va_K D vwCl (tysOf cA) U ∧ SF N A U U.heap
theorem Pic.blind {lay : Lay} {N : Nat} {D : va_G} {cA : Nat → ClassId} {A : Nat → Nat} {m : Mm} {As : List Value} : FrameBlind (va_Pc As (Pic lay N D cA A m)) := by
  intro a U g mk q
  obtain ⟨h1, h2, h3, h4⟩ := q
  exact ⟨h1, h2, va_K.moved (u := U) (U := U.calling g mk a) (Vm.Alike.refl U.vm) h3, SF.same (u := U) (U := U.calling g mk a) rfl h4⟩
/-- what a method's contract says: from this memory to that one, with this answer; no cell is made -/
def Met0 (l : Launch) (y : MethodName) (cc : ByteArray) (nL : Nat) (ret : Option FieldType) (rm : Room) (lay : Lay) (N : Nat) (D : va_G) (cA : Nat → ClassId) (A : Nat → Nat) (As : List Value) (m : Mm) (r : Option Value) (m' : Mm) : Prop :=
  Met l y (Cond.code y cc nL ret :: WL) rm (va_Pc As (Pic lay N D cA A m)) (fun _ st oc t => oc = .returned r ∧ Pic lay N D cA A m' t ∧ va_F (AW N A) st t) 0 0 (AW N A)
abbrev ZR (below : List Frame) (args : Array Value) (s : State) (lay : Lay) (N : Nat) (D : va_G) (cA : Nat → ClassId) (A : Nat → Nat) (r : Option Value) (m' : Mm) : State → Prop :=
  MQ below (fun _ st oc t => oc = .returned r ∧ Pic lay N D cA A m' t ∧ va_F (AW N A) st t) args s 0 0 (AW N A)
def CX (lay : Lay) (N : Nat) (D : va_G) (cA : Nat → ClassId) (A : Nat → Nat) (p : Program) (s : State) (m0 : MethodId) (args : Array Value) (meth : Method) (c : Code) (own : String) (cc : ByteArray) (nL : Nat) (ret : Option FieldType) : Prop :=
  p.tables.exec = Jvm.exec ∧ c.code = cc ∧ c.maxLocals = nL ∧ s.vm.findClass own = some m0.cls ∧ (∀ w ∈ WL, w.before args s = true) ∧ meth.sig.returnType = ret ∧ meth.locks = false ∧ va_K D vwCl (tysOf cA) s ∧ SF N A s s.heap ∧ InjA N A
def KC (ci : Nat) (C : String) (T : u_T) (nf : Nat) (ty0 : Nat → FieldType) : Prop := vwCl[ci]? = some (C, T, nf) ∧ (∀ w ∈ u_ws C T nf, w ∈ WL) ∧ (∀ k, k < nf → parseFieldDescriptor (T k).2.2.1 = some (ty0 k)) ∧ (∀ a, a < nf → ∀ b, b < nf → a ≠ b → (T a).2.1 ≠ (T b).2.1)
section RW
variable {p : Program} {l : Launch} {e : Env} {R : Room} {s : State} {m0 : MethodId} {args : Array Value} {below : List Frame} {meth : Method} {c : Code} {H : Heap} {locs : List Loc} {Q : State → Prop}
variable {lay : Lay} {N : Nat} {D : va_G} {cA : Nat → ClassId} {A : Nat → Nat} {m m1 : Mm} {own : String} {cc : ByteArray} {nL : Nat} {ret : Option FieldType} {pc : Nat} {ls : Array Slot} {rest : List Value}
theorem met0_of {y : MethodName} {rm : Room} {As : List Value} {r : Option Value} {m' : Mm} (hy : plainName y.cls = true) (hn : (lg_sl As).length ≤ nL) (hI : InjA N A)
    (body : ∀ (p : Program) (e : Env) (s : State) (m0 : MethodId) (below : List Frame) (meth : Method) (c : Code) (ls : Array Slot), CX lay N D cA A p s m0 As.toArray meth c y.cls cc nL ret → (y.name = "<init>" → meth.name = "<init>") → va_P D vwCl (wsOf lay N cA A m) s.heap → va_S (AW N A) s.heap s.heap [] → lv_has ls nL (lv_args 0 As) → W p l e rm s m0 As.toArray below meth c s.heap [] 0 0 (ZR below As.toArray s lay N D cA A r m') (F0 m0 0 ls [])) : Met0 l y cc nL ret rm lay N D cA A As m r m' := by
  refine Met.ofW (cc := cc) (maxL := nL) (ret := ret) hy rfl ?_
  intro p e s m0 args below meth c s₁ B hml hv
  obtain ⟨rfl, hP, hK, hF⟩ := hv
  have hts := atoms_spec (ws := Cond.code y cc nL ret :: WL) B.pre
  have hl := lv_entry As (n := nL) hn
  rw [lg_entry_eq]
  generalize (lg_sl As ++ List.replicate (nL - (lg_sl As).length) Slot.unset).toArray = ls at hl ⊢
  exact body p e s m0 below meth c ls ⟨B.exec, B.bytes, hml, findClass_of_methodNamed B.named, fun w h => hts w (List.mem_cons_of_mem _ h), B.returns, B.notSynchronized, hK, hF, hI⟩ (fun h => by rw [← h]; exact (name_of_methodNamed B.named B.method).1) hP va_S.rf hl
theorem cx_end (X : CX lay N D cA A p s m0 args meth c own cc nL ret) (hP : va_P D vwCl (wsOf lay N cA A m) H) (hS : va_S (AW N A) s.heap H locs) {t : State} (ht : t.heap = H) (hW : s.WarmedH t.vm) : Pic lay N D cA A m t ∧ va_F (AW N A) s t := by
  obtain ⟨hx, hb, hml, hown, hts, hr, hlk, hK, hF, hI⟩ := X
  refine ⟨⟨by rw [ht]; exact hP, va_K.moved hW.alike hK, ?_⟩, hS.F ht⟩
  rw [ht]
  exact (SF.warm hW hF).kept (fun a h1 h2 => hS.2.1 a h1 h2)
theorem r_iret {v r : Int32} {m' : Mm} (X : CX lay N D cA A p s m0 args meth c own cc nL (some .int)) (hP : va_P D vwCl (wsOf lay N cA A m) H) (hS : va_S (AW N A) s.heap H locs) (hd : decode cc pc = .ok (.ireturn, 1)) (h : some (v, m) = some (r, m')) : W p l e R s m0 args below meth c H locs 0 0 (ZR below args s lay N D cA A (some (.int r)) m') (F0 m0 pc ls [.int v]) := by
  cases h
  exact W.iret (v := v) X.1 X.2.1 X.2.2.2.2.2.1 (fun t ht hW => ⟨rfl, cx_end X hP hS ht hW⟩) hS.2.2 hd X.2.2.2.2.2.2.1
theorem nb_ok {v : Int32} (h : v = 0 ∨ v = 1) : narrow .boolean (.int v) = .int v ∧ fits .boolean (.int v) = true := by
  rcases h with rfl | rfl <;> exact ⟨rfl, rfl⟩
theorem r_zret {v r : Int32} {m' : Mm} (X : CX lay N D cA A p s m0 args meth c own cc nL (some .boolean)) (hv : v = 0 ∨ v = 1) (hP : va_P D vwCl (wsOf lay N cA A m) H) (hS : va_S (AW N A) s.heap H locs) (hd : decode cc pc = .ok (.ireturn, 1)) (h : some (v, m) = some (r, m')) : W p l e R s m0 args below meth c H locs 0 0 (ZR below args s lay N D cA A (some (.int r)) m') (F0 m0 pc ls [.int v]) := by
  cases h
  exact W.zret (v := v) X.1 X.2.1 X.2.2.2.2.2.1 (nb_ok hv).1 (fun t ht hW => ⟨rfl, cx_end X hP hS ht hW⟩) hS.2.2 hd X.2.2.2.2.2.2.1
theorem r_vret {r : Int32} {m' : Mm} (X : CX lay N D cA A p s m0 args meth c own cc nL none) (hP : va_P D vwCl (wsOf lay N cA A m) H) (hS : va_S (AW N A) s.heap H locs) (hd : decode cc pc = .ok (.return_, 1)) (h : some ((0 : Int32), m) = some (r, m')) : W p l e R s m0 args below meth c H locs 0 0 (ZR below args s lay N D cA A none m') (F0 m0 pc ls []) := by
  cases h
  exact W.vret X.1 X.2.1 X.2.2.2.2.2.1 (fun t ht hW => ⟨rfl, cx_end X hP hS ht hW⟩) hS.2.2 hd X.2.2.2.2.2.2.1
theorem r_aret {q : Nat} {r : Nat} {m' : Mm} {n : String} (X : CX lay N D cA A p s m0 args meth c own cc nL (some (.object n))) (hP : va_P D vwCl (wsOf lay N cA A m) H) (hS : va_S (AW N A) s.heap H locs) (hd : decode cc pc = .ok (.areturn, 1)) (h : some (q, m) = some (r, m')) : W p l e R s m0 args below meth c H locs 0 0 (ZR below args s lay N D cA A (some (.ref (A r))) m') (F0 m0 pc ls [.ref (A q)]) := by
  cases h
  exact W.aret (v := .ref (A q)) X.1 X.2.1 X.2.2.2.2.2.1 (Or.inl ⟨n, rfl⟩) (Or.inr ⟨_, rfl⟩) (fun t ht hW => ⟨rfl, cx_end X hP hS ht hW⟩) hS.2.2 hd X.2.2.2.2.2.2.1
theorem lv_ren {x y : Int32} {pc : Nat} (h : y = x) (k : W p l e R s m0 args below meth c H locs 0 0 Q (F0 m0 pc ls (.int y :: rest))) : W p l e R s m0 args below meth c H locs 0 0 Q (F0 m0 pc ls (.int x :: rest)) := h ▸ k
theorem lv_renl {x y : Int64} {pc : Nat} (h : y = x) (k : W p l e R s m0 args below meth c H locs 0 0 Q (F0 m0 pc ls (.long y :: rest))) : W p l e R s m0 args below meth c H locs 0 0 Q (F0 m0 pc ls (.long x :: rest)) := h ▸ k
theorem r_iald (X : CX lay N D cA A p s m0 args meth c own cc nL ret) (hP : va_P D vwCl (wsOf lay N cA A m) H) {q n j : Nat} {i : Int32} (hq : q < N) (hL : lay cA A q (m q) = .inl (cA 0, n, .inl (m q))) (hin : vp_in i n) (hj : i.toNatClampNeg = j) (hd : decode cc pc = .ok (.iaload, 1))
    (kk : W p l e R s m0 args below meth c H locs 0 0 Q (F0 m0 (pc + 1) ls (.int (m q j) :: rest))) : W p l e R s m0 args below meth c H locs 0 0 Q (F0 m0 pc ls (.int i :: .ref (A q) :: rest)) := by
  subst hj
  exact va_iald X.1 X.2.1 X.2.2.2.2.2.2.2.1 hP q 0 (by rw [ws_get hq, hL]) rfl hin hd kk
theorem r_bald (X : CX lay N D cA A p s m0 args meth c own cc nL ret) (hP : va_P D vwCl (wsOf lay N cA A m) H) {q n j : Nat} {i : Int32} (hq : q < N) (hL : lay cA A q (m q) = .inl (cA 1, n, .inl (m q))) (hin : vp_in i n) (hj : i.toNatClampNeg = j) (hd : decode cc pc = .ok (.baload, 1))
    (kk : W p l e R s m0 args below meth c H locs 0 0 Q (F0 m0 (pc + 1) ls (.int (m q j) :: rest))) : W p l e R s m0 args below meth c H locs 0 0 Q (F0 m0 pc ls (.int i :: .ref (A q) :: rest)) := by
  subst hj
  exact va_bald X.1 X.2.1 X.2.2.2.2.2.2.2.1 hP q 1 (by rw [ws_get hq, hL]) rfl hin hd kk
theorem r_iast (X : CX lay N D cA A p s m0 args meth c own cc nL ret) (hP : va_P D vwCl (wsOf lay N cA A m) H) (hS : va_S (AW N A) s.heap H locs) {q n j : Nat} {i x : Int32} (hq : q < N) (hL : ∀ f, lay cA A q f = .inl (cA 0, n, .inl f)) (hin : vp_in i n) (hj : i.toNatClampNeg = j) (hd : decode cc pc = .ok (.iastore, 1)) (hm : m1 = up m q j x)
    (kk : ∀ (H1 : Heap) (locs1 : List Loc), va_P D vwCl (wsOf lay N cA A m1) H1 → va_S (AW N A) s.heap H1 locs1 → W p l e R s m0 args below meth c H1 locs1 0 0 Q (F0 m0 (pc + 1) ls rest)) : W p l e R s m0 args below meth c H locs 0 0 Q (F0 m0 pc ls (.int x :: .int i :: .ref (A q) :: rest)) := by
  subst hj
  subst hm
  refine va_iast X.1 X.2.1 X.2.2.2.2.2.2.2.1 hP (ws_D X.2.2.2.2.2.2.2.2.2) hS q 0 (by rw [ws_get hq, hL]) rfl hin hd (fun H1 locs1 h1 h2 h3 => kk H1 locs1 ?_ h3)
  rw [← hL, ws_set hq] at h1
  exact h1
theorem r_bast (X : CX lay N D cA A p s m0 args meth c own cc nL ret) (hP : va_P D vwCl (wsOf lay N cA A m) H) (hS : va_S (AW N A) s.heap H locs) {q n j : Nat} {i x : Int32} (hq : q < N) (hL : ∀ f, lay cA A q f = .inl (cA 1, n, .inl f)) (hin : vp_in i n) (hj : i.toNatClampNeg = j) (hd : decode cc pc = .ok (.bastore, 1)) (hm : m1 = up m q j (vp_nar .byte x))
    (kk : ∀ (H1 : Heap) (locs1 : List Loc), va_P D vwCl (wsOf lay N cA A m1) H1 → va_S (AW N A) s.heap H1 locs1 → W p l e R s m0 args below meth c H1 locs1 0 0 Q (F0 m0 (pc + 1) ls rest)) : W p l e R s m0 args below meth c H locs 0 0 Q (F0 m0 pc ls (.int x :: .int i :: .ref (A q) :: rest)) := by
  subst hj
  subst hm
  refine va_bast X.1 X.2.1 X.2.2.2.2.2.2.2.1 hP (ws_D X.2.2.2.2.2.2.2.2.2) hS q 1 (by rw [ws_get hq, hL]) rfl hin hd (fun H1 locs1 h1 h2 h3 => kk H1 locs1 ?_ h3)
  rw [← hL, ws_set hq] at h1
  exact h1
theorem r_aald2 (X : CX lay N D cA A p s m0 args meth c own cc nL ret) (hP : va_P D vwCl (wsOf lay N cA A m) H) {q n q' : Nat} {i : Int32} {f : Nat → Option Nat} (hq : q < N) (hL : lay cA A q (m q) = .inl (cA 2, n, .inr (.inr (.inr (.inr f))))) (hin : vp_in i n) (hf : f i.toNatClampNeg = some (A q')) (hd : decode cc pc = .ok (.aaload, 1))
    (kk : W p l e R s m0 args below meth c H locs 0 0 Q (F0 m0 (pc + 1) ls (.ref (A q') :: rest))) : W p l e R s m0 args below meth c H locs 0 0 Q (F0 m0 pc ls (.int i :: .ref (A q) :: rest)) := by
  have hlt : i.toNatClampNeg < n := vp_lt hin
  have hK := X.2.2.2.2.2.2.2.1
  have ha : (wsOf lay N cA A m)[q]? = some (A q, .inl (cA 2, n, .inr (.inr (.inr (.inr f))))) := by rw [ws_get hq, hL]
  have e9 : va_rf (f i.toNatClampNeg) = .ref (A q') := by rw [hf]; rfl
  refine W.aald (v := va_rf (f i.toNatClampNeg)) (ty := .array .int) X.1 X.2.1 (hP q _ ha) ((hK.2 2 _ rfl).1 n (fun j => va_rf (f j))) rfl (fun q => by cases q) (by show ¬ (i < 0 ∨ (arrV _ _ _).slots.size ≤ _); rw [arrV_size]; exact hin) (by show (arrV _ _ _).slots[_]? = _; rw [arrV_read _ _ hlt]) rfl rfl hd ?_
  rw [e9]
  exact kk
theorem r_aaldq (X : CX lay N D cA A p s m0 args meth c own cc nL ret) (hP : va_P D vwCl (wsOf lay N cA A m) H) (t : Nat) {q n q' : Nat} {C : String} {i : Int32} {f : Nat → Option Nat} (ht : (tysOf cA)[t]? = some (cA t, .object C)) (hq : q < N) (hL : lay cA A q (m q) = .inl (cA t, n, .inr (.inr (.inr (.inr f))))) (hin : vp_in i n) (hf : f i.toNatClampNeg = some (A q')) (hd : decode cc pc = .ok (.aaload, 1))
    (kk : W p l e R s m0 args below meth c H locs 0 0 Q (F0 m0 (pc + 1) ls (.ref (A q') :: rest))) : W p l e R s m0 args below meth c H locs 0 0 Q (F0 m0 pc ls (.int i :: .ref (A q) :: rest)) := by
  refine va_aldq X.1 X.2.1 X.2.2.2.2.2.2.2.1 hP q t (by rw [ws_get hq, hL]) ht hin hd ?_
  rw [hf]
  exact kk
theorem r_get {ci nf : Nat} {C : String} {T : u_T} {ty0 : Nat → FieldType} (K : KC ci C T nf ty0) (k : Nat) {idx q : Nat} {fs : List Value} {v : Value} (X : CX lay N D cA A p s m0 args meth c own cc nL ret) (hP : va_P D vwCl (wsOf lay N cA A m) H) (hq : q < N) (hL : lay cA A q (m q) = .inr (ci, fs)) (hk : k < nf) (hv : fs[k]? = some v) (hw : Cond.fieldLink own idx (T k).1 (T k).2.1 (T k).2.2.1 ∈ WL) (hd : decode cc pc = .ok (.getfield idx, 3))
    (kk : W p l e R s m0 args below meth c H locs 0 0 Q (F0 m0 (pc + 3) ls (v :: rest))) : W p l e R s m0 args below meth c H locs 0 0 Q (F0 m0 pc ls (.ref (A q) :: rest)) :=
  va_get X.1 X.2.1 X.2.2.2.2.1 K.2.1 X.2.2.2.1 X.2.2.2.2.2.2.2.1 hP q (by rw [ws_get hq, hL]) K.1 k hk (X.2.2.2.2.1 _ hw) (fun _ h => h) hv hd kk
theorem r_putT {ci nf : Nat} {C : String} {T : u_T} {ty0 : Nat → FieldType} (K : KC ci C T nf ty0) (k : Nat) {ty : FieldType} {idx q : Nat} {fs : List Value} {x : Int32} (X : CX lay N D cA A p s m0 args meth c own cc nL ret) (hP : va_P D vwCl (wsOf lay N cA A m) H) (hS : va_S (AW N A) s.heap H locs) (hq : q < N) (hL : lay cA A q (m q) = .inr (ci, fs)) (hL2 : lay cA A q (upd (m q) k x) = .inr (ci, fs.set k (.int x))) (hk : k < nf) (hw : Cond.fieldLink own idx (T k).1 (T k).2.1 (T k).2.2.1 ∈ WL) (hfin : (T k).2.2.2 = false) (hty : parseFieldDescriptor (T k).2.2.1 = some ty) (hn : narrow ty (.int x) = .int x) (hfit : fits ty (.int x) = true) (hlen : k < fs.length) (hd : decode cc pc = .ok (.putfield idx, 3)) (hm : m1 = up m q k x)
    (kk : ∀ (H1 : Heap) (locs1 : List Loc), va_P D vwCl (wsOf lay N cA A m1) H1 → va_S (AW N A) s.heap H1 locs1 → W p l e R s m0 args below meth c H1 locs1 0 0 Q (F0 m0 (pc + 3) ls rest)) : W p l e R s m0 args below meth c H locs 0 0 Q (F0 m0 pc ls (.int x :: .ref (A q) :: rest)) := by
  subst hm
  refine va_put X.1 X.2.1 X.2.2.2.2.1 K.2.1 ty0 K.2.2.1 K.2.2.2 X.2.2.2.1 X.2.2.2.2.2.2.2.1 hP (ws_D X.2.2.2.2.2.2.2.2.2) hS q (by rw [ws_get hq, hL]) K.1 k hk (X.2.2.2.2.1 _ hw) (fun _ h => h) hfin hty hn hfit hlen hd (fun H1 locs1 h1 h2 h3 => kk H1 locs1 ?_ h3)
  rw [← hL2, ws_set hq] at h1
  exact h1
theorem r_put {ci nf : Nat} {C : String} {T : u_T} {ty0 : Nat → FieldType} (K : KC ci C T nf ty0) (k : Nat) {idx q : Nat} {fs : List Value} {x : Int32} (X : CX lay N D cA A p s m0 args meth c own cc nL ret) (hP : va_P D vwCl (wsOf lay N cA A m) H) (hS : va_S (AW N A) s.heap H locs) (hq : q < N) (hL : lay cA A q (m q) = .inr (ci, fs)) (hL2 : lay cA A q (upd (m q) k x) = .inr (ci, fs.set k (.int x))) (hk : k < nf) (hw : Cond.fieldLink own idx (T k).1 (T k).2.1 (T k).2.2.1 ∈ WL) (hfin : (T k).2.2.2 = false) (hty : parseFieldDescriptor (T k).2.2.1 = some .int) (hlen : k < fs.length) (hd : decode cc pc = .ok (.putfield idx, 3)) (hm : m1 = up m q k x)
    (kk : ∀ (H1 : Heap) (locs1 : List Loc), va_P D vwCl (wsOf lay N cA A m1) H1 → va_S (AW N A) s.heap H1 locs1 → W p l e R s m0 args below meth c H1 locs1 0 0 Q (F0 m0 (pc + 3) ls rest)) : W p l e R s m0 args below meth c H locs 0 0 Q (F0 m0 pc ls (.int x :: .ref (A q) :: rest)) :=
  r_putT K k X hP hS hq hL hL2 hk hw hfin hty rfl rfl hlen hd hm kk
theorem r_putz {ci nf : Nat} {C : String} {T : u_T} {ty0 : Nat → FieldType} (K : KC ci C T nf ty0) (k : Nat) {idx q : Nat} {fs : List Value} {x : Int32} (X : CX lay N D cA A p s m0 args meth c own cc nL ret) (hx : x = 0 ∨ x = 1) (hP : va_P D vwCl (wsOf lay N cA A m) H) (hS : va_S (AW N A) s.heap H locs) (hq : q < N) (hL : lay cA A q (m q) = .inr (ci, fs)) (hL2 : lay cA A q (upd (m q) k x) = .inr (ci, fs.set k (.int x))) (hk : k < nf) (hw : Cond.fieldLink own idx (T k).1 (T k).2.1 (T k).2.2.1 ∈ WL) (hfin : (T k).2.2.2 = false) (hty : parseFieldDescriptor (T k).2.2.1 = some .boolean) (hlen : k < fs.length) (hd : decode cc pc = .ok (.putfield idx, 3)) (hm : m1 = up m q k x)
    (kk : ∀ (H1 : Heap) (locs1 : List Loc), va_P D vwCl (wsOf lay N cA A m1) H1 → va_S (AW N A) s.heap H1 locs1 → W p l e R s m0 args below meth c H1 locs1 0 0 Q (F0 m0 (pc + 3) ls rest)) : W p l e R s m0 args below meth c H locs 0 0 Q (F0 m0 pc ls (.int x :: .ref (A q) :: rest)) :=
  r_putT K k X hP hS hq hL hL2 hk hw hfin hty (nb_ok hx).1 (nb_ok hx).2 hlen hd hm kk
/-- behind a call -/
theorem r_after {pc' : Nat} {st0 : List Value} {v : Option Value} (X : CX lay N D cA A p s m0 args meth c own cc nL ret) (hS : va_S (AW N A) s.heap H locs) (hr : va_Run p l e R s m0 args below meth c H locs 0 0 0 0 (F0 m0 pc ls st0) rest (fun st oc t => oc = .returned v ∧ Pic lay N D cA A m1 t ∧ va_F (AW N A) st t) (AW N A)) (hpc : pc + 3 = pc')
    (kk : ∀ (H1 : Heap) (locs1 : List Loc), va_P D vwCl (wsOf lay N cA A m1) H1 → va_S (AW N A) s.heap H1 locs1 → W p l e R s m0 args below meth c H1 locs1 0 0 Q (F0 m0 pc' ls (v.toList ++ rest))) : W p l e R s m0 args below meth c H locs 0 0 Q (F0 m0 pc ls st0) := by
  subst hpc
  intro T hT Xs
  obtain ⟨v', st₀, t, T', L, h0, X', hL, e1, e2, ⟨hv, hp, hz, hk⟩, st⟩ := hr T hT Xs
  cases hv
  rw [h0] at hz hk
  obtain ⟨t2, a1, b1⟩ := kk T'.heap (locs ++ L) (by rw [e1]; exact hp.1)
    ⟨Nat.le_trans hS.1 (by rw [e1]; exact hz), fun q h1 h2 => by rw [e1, hk q (Nat.lt_of_lt_of_le h1 hS.1) h2]; exact hS.2.1 q h1 h2, fun q hq => by
      rcases List.mem_append.mp hq with h | h
      · exact hS.2.2 q h
      · exact hL q h⟩ T' rfl X'
  exact ⟨t2, st t2 a1, b1⟩
theorem cx_pre (X : CX lay N D cA A p s m0 args meth c own cc nL ret) (hP : va_P D vwCl (wsOf lay N cA A m) H) (hS : va_S (AW N A) s.heap H locs) {As : List Value} : ∀ U : State, U.heap = H → s.WarmedH U.vm → va_Pc As (Pic lay N D cA A m) As.toArray U := by
  obtain ⟨hx, hb, hml, hown, hts, hr, hlk, hK, hF, hI⟩ := X
  intro U hU hW
  refine ⟨rfl, by rw [hU]; exact hP, va_K.moved hW.alike hK, ?_⟩
  rw [hU]
  exact (SF.warm hW hF).kept (fun a h1 h2 => hS.2.1 a h1 h2)
theorem cx_fix (X : CX lay N D cA A p s m0 args meth c own cc nL ret) : CallFix p m0 c cc nL s args WL own := ⟨X.1, X.2.1, X.2.2.1, X.2.2.2.1, X.2.2.2.2.1⟩
theorem good_c {y : MethodName} {cc' : ByteArray} {nL' : Nat} {ret' : Option FieldType} {ws : List Cond} (h0 : ∀ w ∈ ws, w ∈ WL) (h5 : Cond.code y cc' nL' ret' ∈ WL) : GoodIn WL (ws ++ (Cond.code y cc' nL' ret' :: WL)) := WL_good (fun w h => by
  rcases List.mem_append.mp h with h | h
  · exact h0 w h
  · rcases List.mem_cons.mp h with rfl | h
    · exact h5
    · exact h)
/-- a call of an instance method of the class itself (its own, or of another class of which the receiver exactly is) -/
theorem c_V {idx n q ci nf pc' : Nat} {y : MethodName} {cc' : ByteArray} {nL' : Nat} {ret' : Option FieldType} {rm : Room} {As st0 : List Value} {C : String} {T : u_T} {fs : List Value} {v : Option Value}
    (X : CX lay N D cA A p s m0 args meth c own cc nL ret) (hP : va_P D vwCl (wsOf lay N cA A m) H) (hS : va_S (AW N A) s.heap H locs) (hM : Met0 l y cc' nL' ret' rm lay N D cA A (.ref (A q) :: As) m v m1) (hq : q < N) (hL : lay cA A q (m q) = .inr (ci, fs)) (hc : vwCl[ci]? = some (C, T, nf))
    (w1 : Cond.methodLink own idx y ∈ WL) (w2 : Cond.instanceMethod y ∈ WL) (w3 : Cond.selects C y y ∈ WL) (w4 : Cond.initialized C ∈ WL) (w5 : Cond.code y cc' nL' ret' ∈ WL)
    (hy : y.cls = C ∧ y.cls ≠ "java/lang/invoke/MethodHandle" ∧ y.cls ≠ "java/lang/invoke/VarHandle" ∧ (parseMethodDescriptor y.desc).map (fun d => d.parameters.length) = some n) (hrm : rm.cells = 0 ∧ rm.slots = 0) (hR : rm.frames + 1 ≤ R.frames ∧ 8 + (nL' + 11) + rm.locals ≤ R.locals)
    (hn : As.length = n) (hs : ls.size = nL) (hst : st0 = As.reverse ++ .ref (A q) :: rest) (hW : (rest.map fun v => v.category).sum ≤ 8) (hdg : decode cc pc = .ok (.invokevirtual idx, 3)) (hpc : pc + 3 = pc')
    (kk : ∀ (H1 : Heap) (locs1 : List Loc), va_P D vwCl (wsOf lay N cA A m1) H1 → va_S (AW N A) s.heap H1 locs1 → W p l e R s m0 args below meth c H1 locs1 0 0 Q (F0 m0 pc' ls (v.toList ++ rest))) : W p l e R s m0 args below meth c H locs 0 0 Q (F0 m0 pc ls st0) := by
  have hG : GoodIn WL (wsV own idx C y (Cond.code y cc' nL' ret' :: WL)) := good_c (fun w h => by
    rcases List.mem_cons.mp h with rfl | h
    · exact w1
    rcases List.mem_cons.mp h with rfl | h
    · exact w2
    rcases List.mem_cons.mp h with rfl | h
    · exact w3
    rcases List.mem_cons.mp h with rfl | h
    · exact w4
    · cases h) w5
  exact r_after X hS (va_runV (As := As) (rest := rest) (cx_fix X) hM (cwV n X.2.2.2.2.1 hG rfl hrm.1 hrm.2 hy hR) ⟨Pic.blind, va_recv X.2.2.2.2.2.2.2.1 hP hc (by rw [ws_get hq, hL]), cx_pre X hP hS⟩ rfl hn hs hst (lv_room (st := rest) hW) hdg ⟨Nat.zero_le _, Nat.zero_le _⟩) hpc kk
/-- a call of an overriding or inherited method: x is named, y runs -/
theorem c_U {idx n q ci nf pc' : Nat} {x y : MethodName} {cc' : ByteArray} {nL' : Nat} {ret' : Option FieldType} {rm : Room} {As st0 : List Value} {C : String} {T : u_T} {fs : List Value} {v : Option Value} {b0 : ByteArray} {n0 : Nat} {r0 : Option FieldType} (owner : String)
    (X : CX lay N D cA A p s m0 args meth c own cc nL ret) (hP : va_P D vwCl (wsOf lay N cA A m) H) (hS : va_S (AW N A) s.heap H locs) (hM : Met0 l y cc' nL' ret' rm lay N D cA A (.ref (A q) :: As) m v m1) (hq : q < N) (hL : lay cA A q (m q) = .inr (ci, fs)) (hc : vwCl[ci]? = some (C, T, nf))
    (w1 : Cond.methodLink own idx x ∈ WL) (w2 : Cond.sameMethod x.cls owner x.name x.desc ∈ WL) (w6 : Cond.instanceMethod ⟨owner, x.name, x.desc⟩ ∈ WL) (w3 : Cond.selects C x y ∈ WL) (w7 : Cond.instanceMethod y ∈ WL) (w4 : Cond.initialized y.cls ∈ WL) (w5 : Cond.code y cc' nL' ret' ∈ WL) (w8 : Cond.code ⟨owner, x.name, x.desc⟩ b0 n0 r0 ∈ WL)
    (hy : owner ≠ "java/lang/invoke/MethodHandle" ∧ owner ≠ "java/lang/invoke/VarHandle" ∧ (parseMethodDescriptor x.desc).map (fun d => d.parameters.length) = some n) (hrm : rm.cells = 0 ∧ rm.slots = 0) (hR : rm.frames + 1 ≤ R.frames ∧ 8 + (nL' + 11) + rm.locals ≤ R.locals)
    (hn : As.length = n) (hs : ls.size = nL) (hst : st0 = As.reverse ++ .ref (A q) :: rest) (hW : (rest.map fun v => v.category).sum ≤ 8) (hdg : decode cc pc = .ok (.invokevirtual idx, 3)) (hpc : pc + 3 = pc')
    (kk : ∀ (H1 : Heap) (locs1 : List Loc), va_P D vwCl (wsOf lay N cA A m1) H1 → va_S (AW N A) s.heap H1 locs1 → W p l e R s m0 args below meth c H1 locs1 0 0 Q (F0 m0 pc' ls (v.toList ++ rest))) : W p l e R s m0 args below meth c H locs 0 0 Q (F0 m0 pc ls st0) := by
  have hG : GoodIn WL (va_wsO own idx C owner x y (Cond.code y cc' nL' ret' :: WL)) := good_c (fun w h => by
    rcases List.mem_cons.mp h with rfl | h
    · exact w1
    rcases List.mem_cons.mp h with rfl | h
    · exact w2
    rcases List.mem_cons.mp h with rfl | h
    · exact w6
    rcases List.mem_cons.mp h with rfl | h
    · exact w3
    rcases List.mem_cons.mp h with rfl | h
    · exact w7
    rcases List.mem_cons.mp h with rfl | h
    · exact w4
    · cases h) w5
  exact r_after X hS (va_runU (As := As) (rest := rest) (cx_fix X) hM (va_cwO n X.2.2.2.2.1 hG rfl hrm.1 hrm.2 w8 hy hR) ⟨Pic.blind, va_recv X.2.2.2.2.2.2.2.1 hP hc (by rw [ws_get hq, hL]), cx_pre X hP hS⟩ rfl hn hs hst (lv_room (st := rest) hW) hdg ⟨Nat.zero_le _, Nat.zero_le _⟩) hpc kk
/-- super -/
theorem c_SU {idx n q ci nf pc' : Nat} {y : MethodName} {cc' : ByteArray} {nL' : Nat} {ret' : Option FieldType} {rm : Room} {As st0 : List Value} {C : String} {T : u_T} {fs : List Value} {v : Option Value}
    (X : CX lay N D cA A p s m0 args meth c own cc nL ret) (hP : va_P D vwCl (wsOf lay N cA A m) H) (hS : va_S (AW N A) s.heap H locs) (hM : Met0 l y cc' nL' ret' rm lay N D cA A (.ref (A q) :: As) m v m1) (hq : q < N) (hL : lay cA A q (m q) = .inr (ci, fs)) (hc : vwCl[ci]? = some (C, T, nf))
    (w1 : Cond.methodLink own idx y ∈ WL) (w2 : Cond.sameMethod y.cls y.cls y.name y.desc ∈ WL) (w3 : Cond.superclass own y.cls ∈ WL) (w6 : Cond.instanceMethod y ∈ WL) (w4 : Cond.initialized y.cls ∈ WL) (w5 : Cond.code y cc' nL' ret' ∈ WL)
    (hy : y.name ≠ "<init>" ∧ (parseMethodDescriptor y.desc).map (fun d => d.parameters.length) = some n) (hrm : rm.cells = 0 ∧ rm.slots = 0) (hR : rm.frames + 1 ≤ R.frames ∧ 8 + (nL' + 11) + rm.locals ≤ R.locals)
    (hn : As.length = n) (hs : ls.size = nL) (hst : st0 = As.reverse ++ .ref (A q) :: rest) (hW : (rest.map fun v => v.category).sum ≤ 8) (hdg : decode cc pc = .ok (.invokespecial idx, 3)) (hpc : pc + 3 = pc')
    (kk : ∀ (H1 : Heap) (locs1 : List Loc), va_P D vwCl (wsOf lay N cA A m1) H1 → va_S (AW N A) s.heap H1 locs1 → W p l e R s m0 args below meth c H1 locs1 0 0 Q (F0 m0 pc' ls (v.toList ++ rest))) : W p l e R s m0 args below meth c H locs 0 0 Q (F0 m0 pc ls st0) := by
  have hG : GoodIn WL (va_wsSU own idx y (Cond.code y cc' nL' ret' :: WL)) := good_c (fun w h => by
    rcases List.mem_cons.mp h with rfl | h
    · exact w1
    rcases List.mem_cons.mp h with rfl | h
    · exact w2
    rcases List.mem_cons.mp h with rfl | h
    · exact w3
    rcases List.mem_cons.mp h with rfl | h
    · exact w6
    rcases List.mem_cons.mp h with rfl | h
    · exact w4
    · cases h) w5
  exact r_after X hS (va_runSU (As := As) (rest := rest) (X.2.2.2.2.2.2.2.1.1 ci _ hc).2 (cx_fix X) hM (va_cwSU n X.2.2.2.2.1 hG rfl hrm.1 hrm.2 hy hR) ⟨Pic.blind, va_recv X.2.2.2.2.2.2.2.1 hP hc (by rw [ws_get hq, hL]), cx_pre X hP hS⟩ rfl hn hs hst (lv_room (st := rest) hW) hdg ⟨Nat.zero_le _, Nat.zero_le _⟩) hpc kk
/-- a static method -/
theorem c_S {idx n pc' : Nat} {y : MethodName} {cc' : ByteArray} {nL' : Nat} {ret' : Option FieldType} {rm : Room} {As st0 : List Value} {v : Option Value}
    (X : CX lay N D cA A p s m0 args meth c own cc nL ret) (hP : va_P D vwCl (wsOf lay N cA A m) H) (hS : va_S (AW N A) s.heap H locs) (hM : Met0 l y cc' nL' ret' rm lay N D cA A As m v m1)
    (w1 : Cond.methodLink own idx y ∈ WL) (w2 : Cond.static y ∈ WL) (w4 : Cond.initialized y.cls ∈ WL) (w5 : Cond.code y cc' nL' ret' ∈ WL)
    (hy : y.cls ≠ "java/lang/invoke/MethodHandle" ∧ y.cls ≠ "java/lang/invoke/VarHandle" ∧ (parseMethodDescriptor y.desc).map (fun d => d.parameters.length) = some n) (hrm : rm.cells = 0 ∧ rm.slots = 0) (hR : rm.frames + 1 ≤ R.frames ∧ 8 + (nL' + 11) + rm.locals ≤ R.locals)
    (hn : As.length = n) (hs : ls.size = nL) (hst : st0 = As.reverse ++ rest) (hW : (rest.map fun v => v.category).sum ≤ 8) (hdg : decode cc pc = .ok (.invokestatic idx, 3)) (hpc : pc + 3 = pc')
    (kk : ∀ (H1 : Heap) (locs1 : List Loc), va_P D vwCl (wsOf lay N cA A m1) H1 → va_S (AW N A) s.heap H1 locs1 → W p l e R s m0 args below meth c H1 locs1 0 0 Q (F0 m0 pc' ls (v.toList ++ rest))) : W p l e R s m0 args below meth c H locs 0 0 Q (F0 m0 pc ls st0) := by
  have hG : GoodIn WL (va_wsS own idx y (Cond.code y cc' nL' ret' :: WL)) := good_c (fun w h => by
    rcases List.mem_cons.mp h with rfl | h
    · exact w1
    rcases List.mem_cons.mp h with rfl | h
    · exact w2
    rcases List.mem_cons.mp h with rfl | h
    · exact w4
    · cases h) w5
  exact r_after X hS (va_runS (As := As) (rest := rest) (cx_fix X) hM (va_cwS n X.2.2.2.2.1 hG rfl hrm.1 hrm.2 hy hR) ⟨Pic.blind, cx_pre X hP hS⟩ rfl hn hs hst (lv_room (st := rest) hW) hdg ⟨Nat.zero_le _, Nat.zero_le _⟩) hpc kk
/-- a private static method of a nest mate -/
theorem c_SN {idx n pc' : Nat} {y : MethodName} {host : String} {cc' : ByteArray} {nL' : Nat} {ret' : Option FieldType} {rm : Room} {As st0 : List Value} {v : Option Value}
    (X : CX lay N D cA A p s m0 args meth c own cc nL ret) (hP : va_P D vwCl (wsOf lay N cA A m) H) (hS : va_S (AW N A) s.heap H locs) (hM : Met0 l y cc' nL' ret' rm lay N D cA A As m v m1)
    (w1 : va_Nw (.methodLinkNest own idx y host) s) (w2 : Cond.static y ∈ WL) (w4 : Cond.initialized y.cls ∈ WL) (w5 : Cond.code y cc' nL' ret' ∈ WL)
    (hy : y.cls ≠ "java/lang/invoke/MethodHandle" ∧ y.cls ≠ "java/lang/invoke/VarHandle" ∧ (parseMethodDescriptor y.desc).map (fun d => d.parameters.length) = some n) (hrm : rm.cells = 0 ∧ rm.slots = 0) (hR : rm.frames + 1 ≤ R.frames ∧ 8 + (nL' + 11) + rm.locals ≤ R.locals)
    (hn : As.length = n) (hs : ls.size = nL) (hst : st0 = As.reverse ++ rest) (hW : (rest.map fun v => v.category).sum ≤ 8) (hdg : decode cc pc = .ok (.invokestatic idx, 3)) (hpc : pc + 3 = pc')
    (kk : ∀ (H1 : Heap) (locs1 : List Loc), va_P D vwCl (wsOf lay N cA A m1) H1 → va_S (AW N A) s.heap H1 locs1 → W p l e R s m0 args below meth c H1 locs1 0 0 Q (F0 m0 pc' ls (v.toList ++ rest))) : W p l e R s m0 args below meth c H locs 0 0 Q (F0 m0 pc ls st0) := by
  have hG : GoodIn WL (Cond.code y cc' nL' ret' :: WL) := good_c (ws := []) (fun w h => by cases h) w5
  exact r_after X hS (va_runSN (As := As) (rest := rest) (cx_fix X) hM ⟨va_cnB n X.2.2.2.2.1 hG rfl hrm.1 hrm.2 w1 (X.2.2.2.2.1 _ w4) hy hR, X.2.2.2.2.1 _ w2, trivial⟩ ⟨Pic.blind, cx_pre X hP hS⟩ rfl hn hs hst (lv_room (st := rest) hW) hdg ⟨Nat.zero_le _, Nat.zero_le _⟩) hpc kk
end RW
