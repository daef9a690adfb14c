/-! String.charAt of the words -/
def sChar (j : Nat) : Int32 := sWords.getD j 0
section RW4
variable {p : Program} {l : Launch} {e : Env} {R : Room} {s : State} {m0 : MethodId} {args : Array Value} {below : List Frame} {meth : Method} {c : Code} {H : Heap} {locs : List Loc} {Q : State → Prop}
variable {lay : Lay} {N : Nat} {D : va_G} {cA : Nat → ClassId} {A : Nat → Nat} {m m1 : Mm} {own : String} {cc : ByteArray} {nL : Nat} {ret : Option FieldType} {pc : Nat} {ls : Array Slot} {rest : List Value}
theorem r_charAt {idx : Nat} {i : Int32} (X : CX lay N D cA A p s m0 args meth c own cc nL ret) (hP : va_P D vwCl (wsOf lay N cA A m) H) (hS : va_S (AW N A) s.heap H locs) (hI : InjA N A) (hin : vp_in i 144) (w1 : Cond.methodLink own idx yJ0_charAt_5068e ∈ WL) (hR : 7 + 1 ≤ R.frames ∧ 8 + (2 + 11) + 130 ≤ R.locals) (hs : ls.size = nL) (hW : (rest.map fun v => v.category).sum ≤ 8) (hdg : decode cc pc = .ok (.invokevirtual idx, 3))
    (kk : ∀ (H1 : Heap) (locs1 : List Loc), va_P D vwCl (wsOf lay N cA A m) H1 → va_S (AW N A) s.heap H1 locs1 → W p l e R s m0 args below meth c H1 locs1 0 0 Q (F0 m0 (pc + 3) ls (.int (sChar (ix i)) :: rest))) : W p l e R s m0 args below meth c H locs 0 0 Q (F0 m0 pc ls (.int i :: .ref (A 1004) :: rest)) := by
  sorry
end RW4
