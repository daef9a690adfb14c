/-! the law, from its entry to its end -/
theorem and63 (x : Int32) : 0 ≤ (x &&& 63).toInt ∧ (x &&& 63).toInt ≤ 63 := by
  have h : (x &&& 63).toBitVec.toNat ≤ 63 := by
    rw [show (x &&& 63).toBitVec = x.toBitVec &&& (63 : Int32).toBitVec from rfl, BitVec.toNat_and]
    exact Nat.le_trans Nat.and_le_right (by decide)
  have e : (x &&& 63).toInt = ((x &&& 63).toBitVec.toNat : Int) := by
    show (x &&& 63).toBitVec.toInt = _
    exact BitVec.toInt_eq_toNat_of_lt (by omega)
  rw [e]
  omega
theorem law_len {L i : Nat} (hL : L ≤ 2560) (hi : i ≤ L) (h : ¬ nI L - 5 < nI i) : i + 5 ≤ L := by
  by_cases h5 : 5 ≤ L
  · have e : nI L - 5 = nI (L - 5) := by
      have : nI (L - 5) + nI 5 = nI L := by rw [nI_add]; congr 1; omega
      rw [← this, show (5 : Int32) = nI 5 from rfl, Int32.add_sub_cancel]
    rw [e] at h
    have := Nat.le_of_not_lt (fun z => h ((nI_ltI (by omega) (by omega)).mpr z))
    omega
  · exfalso
    apply h
    have hp : (0 : Int32) ≤ nI i := nI_pos' (by omega)
    refine Int32.lt_of_lt_of_le ?_ hp
    rcases (show L = 0 ∨ L = 1 ∨ L = 2 ∨ L = 3 ∨ L = 4 by omega) with rfl | rfl | rfl | rfl | rfl <;> decide
section LS
variable {p : Program} {l : Launch} {e : Env} {s : State} {m : MethodId} {below : List Frame} {meth : Method} {c : Code}
variable {D : va_G} {cA : Nat → ClassId} {st : Nat → Nat} {b L : Nat} {xs : Nat → Int32}
theorem law_loop (X : LX D cA st p s m c b L xs) (hL : L ≤ 2560) (hr : meth.sig.returnType = ret) (hlk : meth.locks = false) : ∀ (n i : Nat) (ls : Array Slot) (mc mr : Mm) (H : Heap), L < i + n → i ≤ L → lv_has ls 4 (lvL s st b i) → LSt D cA s st mc mr H →
    W p l e room_1 s m #[Value.ref b] below meth c H [] 188 6654 (lw_Z below #[Value.ref b] s) (F0 m 18 ls []) := by
  intro n
  induction n with
  | zero => intro i ls mc mr H h1 h2; omega
  | succ n ih =>
    intro i ls mc mr H h1 h2 hl h
    have hx := X.1
    have hb := X.2.1
    have hX := X.2.2.2.2.2.2.2.2.1
    have hbl := X.2.2.2.2.2.2.2.2.2
    have hO := h.1
    have hS : va_S (fun q => s.heap.size ≤ q) s.heap H [] := ⟨hO.1, fun q h _ => hO.2 q h, fun _ h => by cases h⟩
    refine lv_iload_n hx hb dL_law_18 rfl (lv_at hl 0 rfl) ?_
    refine lv_aload_n hx hb dL_law_19 rfl (lv_at hl 3 rfl) ?_
    refine va_slen (A := fun q => s.heap.size ≤ q) hx hb hX hbl (Nat.not_le.mpr hbl) hS dL_law_20 ?_
    refine lv_iconst (v := 5) hx hb dL_law_21 (by decide) ?_
    refine lv_isub hx hb dL_law_22 ?_
    refine lv_icmp_gt (tgt := 1751) hx hb dL_law_23 (by decide) (fun _ => ?_) (fun hc => ?_)
    · refine lv_iconst (v := 1) hx hb dL_law_1751 (by decide) ?_
      refine W.widen (k := 600000) (n := 7302250) (Nat.le_of_ble_eq_true rfl) (Nat.le_of_ble_eq_true rfl) ?_
      exact lw_ret hx hb hr hlk dL_law_1752
    · have hi : i + 5 ≤ L := law_len hL h2 hc
      have ei : (nI i).toNatClampNeg = i := nI_clamp (by omega)
      refine lv_aload_n hx hb dL_law_26 rfl (lv_at hl 3 rfl) ?_
      refine lv_iload_n hx hb dL_law_27 rfl (lv_at hl 0 rfl) ?_
      refine va_sld (A := fun q => s.heap.size ≤ q) hx hb hX hbl (Nat.not_le.mpr hbl) hS (fun q => ?_) dL_law_28 ?_
      · rcases q with q | q
        · exact nI_pos (by omega) q
        · omega
      refine lv_bipush (v := 63) hx hb dL_law_29 (by decide) ?_
      refine lv_iand hx hb dL_law_31 ?_
      refine law_sw X hL hi hl h (fun H1 mc1 mr1 h1' => ?_) _ (and63 _)
      refine lv_iinc (v := nI (i + 5)) hx hb dL_law_1745 hl (k := 0) rfl (by rw [show Int32.ofInt 5 = nI 5 from rfl, nI_add]) (by decide) rfl (fun ls1 hl1 => ?_)
      refine lv_goto (tgt := 18) hx hb dL_law_1748 (by decide) ?_
      exact ih (i + 5) ls1 mc1 mr1 H1 (by omega) hi hl1 h1'
end LS
set_option maxHeartbeats 4000000 in
set_option maxRecDepth 100000 in
/-- from the entry, for every script of at most 2560 ints, the law comes to its end with true -/
theorem whole_start {p : Program} {e : Env} {s : State} {m : MethodId} {below : List Frame} {meth : Method} {c : Code} (l : Launch) (hflags : l.flags = flags0) {b L : Nat} {xs : Nat → Int32} (hL : L ≤ 2560) (C0 : lw_At p s m meth c b L xs) : W p l e room_1 s m #[Value.ref b] below meth c s.heap [] 0 0 (lw_Z below #[Value.ref b] s) (entryFrame m ([Value.ref b] : List Value).toArray 4) := by
  obtain ⟨hx, hb, hr, hml, hown, hts, hX, hbl, hlocks, hgv⟩ := id C0
  have hWL := WL_hts hts
  have hVX := begin_x hts
  obtain ⟨D, cA, hK⟩ := begin_k hWL hVX
  obtain ⟨st, hst⟩ := begin_s hts hgv
  have hown : s.vm.findClass "BenchTowelsLaw" = some m.cls := hown
  have X : LX D cA st p s m c b L xs := ⟨hx, hb, hml, hown, hWL, hK, hst cN _ (fun q h => if_neg (Nat.not_lt.mpr h)) (fun q hq => (aC_AW hq).1), hst rN _ (fun q h => if_neg (Nat.not_lt.mpr h)) (fun q hq => Nat.le_trans (Nat.le_add_right _ _) (aR_AW hq).1), hX, hbl⟩
  have CX0 : CK D cA p s m #[Value.ref b] meth c "BenchTowelsLaw" cL_law 4 := ⟨hx, hb, hml, hown, hWL, hK, hVX⟩
  have hl := lv_entry ([.ref b]) (n := 4) (Nat.le_of_ble_eq_true rfl)
  rw [lg_entry_eq]
  generalize (lg_sl ([.ref b]) ++ List.replicate (4 - (lg_sl ([.ref b])).length) Slot.unset).toArray = ls at hl ⊢
  have hl : lv_has ls 4 [(0, .ref b)] := hl
  have hS : KS D (fun _ => .inr (6, [])) s.heap.size 0 s.heap s.heap [] := ⟨rfl, wsR_P (fun k hk => absurd hk (Nat.not_lt_zero k)), va_S.rf⟩
  generalize hz : s.heap.size = z at hS
  refine k_new kc_11 (cells' := 1) (slots' := 15) CX0 hS wt_1_21 wt_1_22 wt_1_1 rfl rfl (Nat.le_of_ble_eq_true rfl) (Nat.le_of_ble_eq_true rfl) dL_law_0 (fun H hS => ?_)
  refine lv_dup hx hb dL_law_3 rfl ?_
  refine k_call (As := []) (rest := [.ref (z + 0)]) (n' := 172) (cells' := 172) (slots' := 4291) CX0 hS (kX11_init l D cA (z + 0)) rfl rfl wt_1_23 wt_1_24 wt_1_1 wt_1_25 ⟨rfl, hy_X11_init⟩ ⟨rfl, rfl⟩ ⟨(Nat.le_of_ble_eq_true rfl), (Nat.le_of_ble_eq_true rfl)⟩ rfl hl.1 rfl (Nat.le_of_ble_eq_true rfl) dL_law_4 rfl rfl rfl (Nat.le_of_ble_eq_true rfl) (Nat.le_of_ble_eq_true rfl) (fun H locs hS => ?_)
  refine lv_astore_n hx hb dL_law_7 rfl hl (by decide) rfl (fun ls hl => ?_)
  have hl : lv_has ls 4 [(1, .ref z), (0, .ref b)] := hl
  refine k_new kc_12 (cells' := 173) (slots' := 4330) CX0 hS wt_5_166 wt_5_167 wt_1_13 rfl rfl (Nat.le_of_ble_eq_true rfl) (Nat.le_of_ble_eq_true rfl) dL_law_8 (fun H hS => ?_)
  refine lv_dup hx hb dL_law_11 rfl ?_
  refine k_call (As := []) (rest := [.ref (z + 172)]) (n' := 188) (cells' := 188) (slots' := 6654) CX0 hS (kX12_init l D cA (z + 172)) rfl rfl wt_5_168 wt_5_169 wt_1_13 wt_5_170 ⟨rfl, hy_X12_init⟩ ⟨rfl, rfl⟩ ⟨(Nat.le_of_ble_eq_true rfl), (Nat.le_of_ble_eq_true rfl)⟩ rfl hl.1 rfl (Nat.le_of_ble_eq_true rfl) dL_law_12 rfl rfl rfl (Nat.le_of_ble_eq_true rfl) (Nat.le_of_ble_eq_true rfl) (fun H locs hS => ?_)
  refine lv_astore_n hx hb dL_law_15 rfl hl (by decide) rfl (fun ls hl => ?_)
  have hl : lv_has ls 4 [(2, .ref (z + 172)), (1, .ref z), (0, .ref b)] := hl
  refine lv_iconst (v := 0) hx hb dL_law_16 (by decide) ?_
  refine lv_istore_n hx hb dL_law_17 rfl hl (by decide) rfl (fun ls hl => ?_)
  subst hz
  have hl : lv_has ls 4 (lvL s st b 0) := hl
  obtain ⟨z1, hP, s1, s2, s3⟩ := hS
  refine va_forget (fun q hq => s3 q hq) ?_
  refine law_loop X hL hr hlocks (L + 1) 0 ls mc0 mr0 H (by omega) (Nat.zero_le _) hl ⟨⟨s1, fun q hq => s2 q hq (Nat.not_le.mpr hq)⟩, pc_all (wsR_P (fun k hk => ?_)), pr_all (wsR_P (fun k hk => ?_)), rr0⟩
  · have h1 := wsR_at hP (show k < 188 by omega)
    rw [glE_lt hk, upE_ne (Nat.ne_of_lt hk), glE_ge (Nat.zero_le _)] at h1
    exact h1
  · have h1 := wsR_at hP (show 172 + k < 188 by omega)
    rw [glE_ge (Nat.le_add_right _ _), Nat.add_sub_cancel_left, ← Nat.add_assoc] at h1
    exact h1
