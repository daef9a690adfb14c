/-! new int[n][k]: one row of rows, then the rows one after the other, each put in its place -/
def mgO (cO : ClassId) (n a i : Nat) : Cell := arrV cO n (fun j => va_rf (if j < i then some (a + 1 + j) else none))
def mgI (cI : ClassId) (k : Nat) : Cell := arrV cI k (fun _ => .int 0)
def mgS (t : State) (cO cI : ClassId) (n k : Nat) : Nat → State
  | 0 => t.pushCell (mgO cO n t.heap.size 0)
  | i + 1 => ((mgS t cO cI n k i).pushCell (mgI cI k)).setCell t.heap.size (mgO cO n t.heap.size (i + 1))
theorem mgO_step (cO : ClassId) (n a i : Nat) : (mgO cO n a i).setSlot i (.ref (a + 1 + i)) = mgO cO n a (i + 1) := by
  unfold mgO
  rw [arrV_store]
  congr 1
  funext j
  unfold updV
  by_cases e : j = i
  · subst e
    rw [if_pos rfl, if_pos (Nat.lt_succ_self j)]; rfl
  · rw [if_neg e]
    show va_rf (if j < i then some (a + 1 + j) else none) = va_rf (if j < i + 1 then some (a + 1 + j) else none)
    by_cases h : j < i
    · rw [if_pos h, if_pos (Nat.lt_succ_of_lt h)]
    · rw [if_neg h, if_neg (by omega)]
section MG
variable (t : State) (cO cI : ClassId) (n k : Nat)
theorem mg_facts : ∀ i, (mgS t cO cI n k i).heap.size = t.heap.size + 1 + i ∧ (mgS t cO cI n k i).heap[t.heap.size]? = some (mgO cO n t.heap.size i) ∧ (mgS t cO cI n k i).vm = t.vm ∧ (mgS t cO cI n k i).slotsUsed = t.slotsUsed + n + i * k := by
  intro i
  induction i with
  | zero => exact ⟨by simp [mgS], by simp [mgS], rfl, by simp [mgS, mgO, arrV_size]⟩
  | succ i ih =>
    obtain ⟨a, b, c, d⟩ := ih
    have hlt : t.heap.size < (mgS t cO cI n k i).heap.size := by omega
    have hb : ((mgS t cO cI n k i).pushCell (mgI cI k)).heap[t.heap.size]? = some (mgO cO n t.heap.size i) := by rw [State.heap_pushCell_of_lt (h := hlt)]; exact b
    refine ⟨?_, ?_, ?_, ?_⟩
    · show (((mgS t cO cI n k i).pushCell (mgI cI k)).setCell _ _).heap.size = _
      simp [State.setCell, a]; omega
    · exact State.heap_setCell_self hb
    · exact c
    · show (((mgS t cO cI n k i).pushCell (mgI cI k)).setCell _ _).slotsUsed = _
      rw [State.slotsUsed_setCell, State.slotsUsed_pushCell, d, mgI, arrV_size, Nat.succ_mul]; omega
theorem mg_old {a : Nat} (ha : a < t.heap.size) : ∀ i, (mgS t cO cI n k i).heap[a]? = t.heap[a]? := by
  intro i
  induction i with
  | zero => exact State.heap_pushCell_of_lt _ _ ha
  | succ i ih =>
    have f := (mg_facts t cO cI n k i).1
    have hlt : a < (mgS t cO cI n k i).heap.size := by omega
    show (((mgS t cO cI n k i).pushCell (mgI cI k)).setCell t.heap.size _).heap[a]? = _
    rw [State.heap_setCell_other (Nat.ne_of_gt ha), State.heap_pushCell_of_lt (h := hlt)]
    exact ih
theorem mg_row : ∀ i j, j < i → (mgS t cO cI n k i).heap[t.heap.size + 1 + j]? = some (mgI cI k) := by
  intro i
  induction i with
  | zero => intro j h; omega
  | succ i ih =>
    intro j h
    have f := (mg_facts t cO cI n k i).1
    show (((mgS t cO cI n k i).pushCell (mgI cI k)).setCell t.heap.size _).heap[t.heap.size + 1 + j]? = _
    rw [State.heap_setCell_other (show t.heap.size ≠ t.heap.size + 1 + j by omega)]
    by_cases e : j = i
    · subst e
      rw [← f]
      exact State.heap_pushCell_size _ _
    · have hlt : t.heap.size + 1 + j < (mgS t cO cI n k i).heap.size := by omega
      rw [State.heap_pushCell_of_lt (h := hlt)]
      exact ih j (by omega)
theorem mg_top (f : JFrame) : ∀ i, mgS (t.setTop f) cO cI n k i = (mgS t cO cI n k i).setTop f := by
  intro i
  induction i with
  | zero => rfl
  | succ i ih =>
    rw [mgS, ih]
    rfl
end MG
section MGW
variable {E : CtlPost} {e : Env} {dd : Bool} {acts : List Action} {U : State}
theorem mg_fit {c : ClassId} {comp : ClassId} {ty : FieldType} {kc : Class} {v : Value} (hk : U.vm.classes[c]? = some kc) (hkind : kc.kind = .array comp ty) (hfit : fits ty v = true) (i : Nat) : U.fitsSlot c .none i v = true := by
  simp [State.fitsSlot, State.slotType?, hk, hkind, hfit]
theorem mg_new {c comp : ClassId} {ty : FieldType} {kc : Class} {len : Nat} {v : Value} (hk : U.vm.classes[c]? = some kc) (hkind : kc.kind = .array comp ty) (hl : ¬ len > e.platform.arrayLengthLimit) (hh : ¬ len * componentBytes ty > e.platform.maxHeapBytes) (hfit : fits ty v = true) {Q : Addr → Pre}
    (h1 : U.heap.size < e.platform.maxCells) (h2 : U.slotsUsed + len ≤ e.platform.maxSlots) (hq : ∀ acts', Q U.heap.size dd acts' (U.pushCell (arrV c len fun _ => v))) : wp (Jvm.newArray c len v) Q E e dd acts U := by
  have hs : ¬ len > e.platform.maxSlots := by omega
  simp only [Jvm.newArray, Jvm.arrayFits, wp_bind', Jvm.W.ask, Jvm.W.ite, hl, hh, hs, if_false, wp_pure', Jvm.W.theClass, hk, hkind, Jvm.W.alloc, Option.some.injEq, exists_eq_left', Array.size_replicate]
  refine ⟨h1, h2, fun i w hw => ?_, ?_⟩
  · simp only [Array.getElem?_replicate] at hw
    split at hw
    · cases hw
      exact mg_fit hk hkind hfit i
    · cases hw
  · rw [arrV_new]
    exact hq _
/-- one row -/
theorem mg_make1 {cI cc : ClassId} {kI : Class} {k : Int32} (hkI : U.vm.classes[cI]? = some kI) (hkindI : kI.kind = .array cc .int) (hk : ¬ k < 0) (hl : ¬ k.toNatClampNeg > e.platform.arrayLengthLimit) (hh : ¬ k.toNatClampNeg * componentBytes .int > e.platform.maxHeapBytes) {Q : Addr → Pre}
    (h1 : U.heap.size < e.platform.maxCells) (h2 : U.slotsUsed + k.toNatClampNeg ≤ e.platform.maxSlots) (hq : ∀ acts', Q U.heap.size dd acts' (U.pushCell (mgI cI k.toNatClampNeg))) : wp (Op.multianewarray.make cI [k]) Q E e dd acts U := by
  rw [Op.multianewarray.make]
  simp only [wp_bind', Jvm.W.ite, hk, if_false, wp_pure', Jvm.W.theClass, hkI, hkindI, Option.some.injEq, exists_eq_left']
  exact mg_new hkI hkindI hl hh rfl h1 h2 hq
/-- the row of rows -/
theorem mg_make2 {cO cI cc : ClassId} {kO kI : Class} {n k : Int32} (hkO : U.vm.classes[cO]? = some kO) (hkindO : kO.kind = .array cI (.array .int)) (hkI : U.vm.classes[cI]? = some kI) (hkindI : kI.kind = .array cc .int) (hn : ¬ n < 0) (hk : ¬ k < 0)
    (hl1 : ¬ n.toNatClampNeg > e.platform.arrayLengthLimit) (hh1 : ¬ n.toNatClampNeg * componentBytes (.array .int) > e.platform.maxHeapBytes) (hl2 : ¬ k.toNatClampNeg > e.platform.arrayLengthLimit) (hh2 : ¬ k.toNatClampNeg * componentBytes .int > e.platform.maxHeapBytes)
    (hc : U.heap.size + 1 + n.toNatClampNeg ≤ e.platform.maxCells) (hs : U.slotsUsed + n.toNatClampNeg + n.toNatClampNeg * k.toNatClampNeg ≤ e.platform.maxSlots)
    {Q : Addr → Pre} (hq : ∀ d' acts', Q U.heap.size d' acts' (mgS U cO cI n.toNatClampNeg k.toNatClampNeg n.toNatClampNeg)) : wp (Op.multianewarray.make cO [n, k]) Q E e dd acts U := by
  have hfind : ([k].find? (· < 0)) = none := by simp [hk]
  have hmul := Nat.zero_le (n.toNatClampNeg * k.toNatClampNeg)
  have e0 : (arrV cO n.toNatClampNeg fun _ => Value.null) = mgO cO n.toNatClampNeg U.heap.size 0 := by
    unfold mgO
    congr 1
  rw [Op.multianewarray.make]
  simp only [wp_bind', Jvm.W.ite, hn, if_false, wp_pure', Jvm.W.theClass, hkO, hkindO, Option.some.injEq, exists_eq_left']
  refine mg_new hkO hkindO hl1 hh1 rfl (by omega) (by omega) fun acts' => ?_
  rw [e0]
  simp only [hfind]
  rw [ite_self, wp_bind', Std.Legacy.Range.forIn_eq_forIn_range', show ([:n.toNatClampNeg] : Std.Legacy.Range).size = n.toNatClampNeg by simp [Std.Legacy.Range.size]]
  show wp (forIn (List.range' 0 n.toNatClampNeg 1) PUnit.unit _) _ E e dd acts' _
  refine wp_forIn_inv (fun rest U' => ∃ i, i + rest.length = n.toNatClampNeg ∧ rest = List.range' i rest.length ∧ U' = mgS U cO cI n.toNatClampNeg k.toNatClampNeg i) _ _ ⟨0, by simp, by simp, rfl⟩ ?_ ?_
  · rintro x rest U' d' acts'' Q' ⟨i, hi, hl, rfl⟩ next
    rw [List.length_cons] at hi hl
    rw [List.range'_succ] at hl
    obtain ⟨rfl, hrest⟩ := List.cons.inj hl
    obtain ⟨f1, f2, f3, f4⟩ := mg_facts U cO cI n.toNatClampNeg k.toNatClampNeg x
    have hm : x * k.toNatClampNeg + k.toNatClampNeg ≤ n.toNatClampNeg * k.toNatClampNeg := by
      have := Nat.mul_le_mul_right k.toNatClampNeg (show x + 1 ≤ n.toNatClampNeg by omega)
      rw [Nat.succ_mul] at this
      exact this
    simp only [wp_bind']
    refine mg_make1 (by rw [f3]; exact hkI) hkindI hk hl2 hh2 (by rw [f1]; omega) (by rw [f4]; omega) fun acts3 => ?_
    simp only [wp_bind', Jvm.W.writeLoc, wp_pure']
    have hlt : U.heap.size < (mgS U cO cI n.toNatClampNeg k.toNatClampNeg x).heap.size := by omega
    refine ⟨mgO cO n.toNatClampNeg U.heap.size x, by rw [State.heap_pushCell_of_lt (h := hlt)]; exact f2, (fun z => by cases z), by unfold mgO; rw [arrV_size]; omega, ?_, next _ _ _ ⟨x + 1, by omega, hrest, ?_⟩⟩
    · exact mg_fit (ty := .array .int) (by show (mgS U cO cI n.toNatClampNeg k.toNatClampNeg x).vm.classes[_]? = _; rw [f3]; exact hkO) hkindO rfl _
    · rw [f1, mgO_step]; rfl
  · rintro U' d' acts'' ⟨i, hi, -, rfl⟩
    have : i = n.toNatClampNeg := by simpa using hi
    subst this
    simp only [wp_pure']
    exact hq _ _
end MGW
section MGR
variable {p : Program} {l : Launch} {e : Env} {R : Room} {s : State} {m : MethodId} {args : Array Value} {below : List Frame} {meth : Method} {c : Code} {T : State} {H : Heap} {locs : List Loc} {cells slots : Nat} {Q : State → Prop}
theorem mg_stand (X : Stand p l e R s m args below meth c T locs cells slots) (cO cI : ClassId) (n k : Nat) : ∀ i, Stand p l e R s m args below meth c (mgS T cO cI n k i) (locs ++ (List.range i).map fun j => ⟨T.heap.size, j⟩) (cells + 1 + i) (slots + n + i * k) := by
  intro i
  induction i with
  | zero =>
    have h := X.pushed (mgO cO n T.heap.size 0)
    rw [show (mgO cO n T.heap.size 0).slots.size = n from arrV_size _ _ _] at h
    simpa [mgS] using h
  | succ i ih =>
    obtain ⟨f1, f2, -, -⟩ := mg_facts T cO cI n k i
    have hlt : T.heap.size < (mgS T cO cI n k i).heap.size := by omega
    have hc : ((mgS T cO cI n k i).pushCell (mgI cI k)).heap[T.heap.size]? = some (mgO cO n T.heap.size i) := by rw [State.heap_pushCell_of_lt (h := hlt)]; exact f2
    have h := (ih.pushed (mgI cI k)).stored hc i (.ref (T.heap.size + 1 + i))
    rw [show (mgI cI k).slots.size = k from arrV_size _ _ _, mgO_step] at h
    rw [List.range_succ, List.map_append, ← List.append_assoc, Nat.succ_mul, show slots + n + (i * k + k) = slots + n + i * k + k by omega]
    exact h
theorem w_mna {cc : ByteArray} (hexec : p.tables.exec = Jvm.exec) (hb : c.code = cc) {own : String} {index : Nat} (hown : s.vm.findClass own = some m.cls) (hclink : (Cond.classLink own index "[[I").before args s = true) (hover : (Cond.arrayOver (.array .int)).before args s = true) (harr : (Cond.arrayClass .int).before args s = true)
    {g : JFrame} (hg : g.method = m) (hdg : decode cc g.pc = .ok (.multianewarray index 2, 4)) {n k : Nat} {rest : List Value} (hstack : g.stack = .int (nI k) :: .int (nI n) :: rest) (hn : n ≤ 1000) (hk : k ≤ 1000) (hcells : cells + (1 + n) ≤ R.cells) (hslots : slots + (n + n * k) ≤ R.slots)
    (kk : ∀ (H' : Heap) (cO cI : ClassId), s.vm.findClass "[[I" = some cO → s.vm.findClass "[I" = some cI → H'.size = H.size + 1 + n → H'[H.size]? = some (mgO cO n H.size n) → (∀ j, j < n → H'[H.size + 1 + j]? = some (mgI cI k)) → (∀ q, q < H.size → H'[q]? = H[q]?) →
      W p l e R s m args below meth c H' (locs ++ (List.range n).map fun j => ⟨H.size, j⟩) (cells + 1 + n) (slots + n + n * k) Q { g with pc := g.pc + 4, stack := .ref H.size :: rest }) : W p l e R s m args below meth c H locs cells slots Q g := by
  intro T hT X
  subst hT; subst hb; subst hg
  have hpl : e.platform.magicAccessors = ({} : Platform).magicAccessors := by rw [X.admits.platform]
  obtain ⟨cI, cO, kO, hcI, -, hkO, hkindO, hcO⟩ := arrayOverA_spec hover
  obtain ⟨cI', kI, cc, hcI', hkI, hkindI⟩ := Cond.arrayClass_spec harr
  cases hcI.symm.trans hcI'
  obtain ⟨c0, hfc0, hcl⟩ := Cond.classLink_spec hown hclink e.platform hpl
  cases hcO.symm.trans hfc0
  obtain ⟨hg1, hwarm1, hready1⟩ := State.classEntry (e := e) X.warmed hcl
  generalize T.vm.noted g.method.cls index (.cls cO) = vm1 at hg1 hwarm1 hready1
  have hal : s.vm.Alike vm1 := hwarm1.alike
  obtain ⟨kO1, hkO1, heO⟩ := hal.2.2 _ _ hkO
  obtain ⟨kI1, hkI1, heI⟩ := hal.2.2 _ _ hkI
  have kindO1 : kO1.kind = .array cI (.array .int) := by rw [heO]; exact hkindO
  have kindI1 : kI1.kind = .array cc .int := by rw [heI]; exact hkindI
  have X1 := X.noted hwarm1
  have en : (nI n).toNatClampNeg = n := nI_clamp (by omega)
  have ek : (nI k).toNatClampNeg = k := nI_clamp (by omega)
  obtain ⟨hr1, hr2⟩ := X.roomAbove hcells hslots
  have XF := mg_stand X1 cO cI n k n
  obtain ⟨f1, f2, -, -⟩ := mg_facts (T.setVm vm1) cO cI n k n
  obtain ⟨t, a1, b1⟩ := kk (mgS (T.setVm vm1) cO cI n k n).heap cO cI hcO hcI f1 f2 (mg_row (T.setVm vm1) cO cI n k n) (fun q hq => mg_old (T.setVm vm1) cO cI n k hq n) _ rfl XF
  refine ⟨t, ?_, b1⟩
  have lim : e.platform.arrayLengthLimit > 1000 := by rw [Launch.admits_arrayLengthLimit X.admits]; decide
  have mxb : e.platform.maxHeapBytes > 10000 := by rw [Launch.admits_maxHeapBytes X.admits]; decide
  jvm_step X.here [hexec, hdg]
  simp only [Op.multianewarray.sem, wp_bind', Jvm.W.resolveClassAt_links (State.method?_setTop g X.here.top) hg1]
  rw [Jvm.W.popN, if_neg (by decide)]
  refine ⟨g, State.topJava?_setTop' (s := T.setVm vm1) g X.here.top, [.int (nI n), .int (nI k)], rest, rfl, hstack, ?_⟩
  simp only [List.mapM_cons, List.mapM_nil, wp_bind', wp_pure']
  refine mg_make2 (kO := kO1) (kI := kI1) (cI := cI) (cc := cc) hkO1 kindO1 hkI1 kindI1 (nI_pos (by omega)) (nI_pos (by omega)) (by rw [en]; omega) (by rw [en]; show ¬ n * 4 > _; omega) (by rw [ek]; omega) (by rw [ek]; show ¬ k * 4 > _; omega) (by rw [en]; show T.heap.size + 1 + n ≤ _; omega) (by rw [en, ek]; show T.slotsUsed + n + n * k ≤ _; omega) (fun d' acts' => ?_)
  rw [en, ek]
  have eS : ((T.setTop g).setVm vm1).setTop { g with stack := rest } = (T.setVm vm1).setTop { g with stack := rest } := by
    show ((T.setVm vm1).setTop g).setTop _ = _
    rw [State.setTop_setTop]
  rw [eS, mg_top]
  simp only [wp_bind', Jvm.W.mark, Jvm.W.pushRef, State.topJava?_setTop' _ XF.here.top, Option.some.injEq, exists_eq_left', State.setTop_setTop, State.heap_setTop]
  intro acts
  simp [jvm, XF.here.top]
  exact a1
end MGR
