section STR
variable {p : Program} {l : Launch} {e : Env} {R : Room} {s : State} {m : MethodId} {args : Array Value} {below : List Frame} {meth : Method} {c : Code} {Q : State → Prop} {G : GG} {N0 : Nat} {own : String} {cc : ByteArray} {nL : Nat}
variable {σ : Hp} {cu su pc : Nat} {lv lv' : List (Nat × Value)} {st : List Value}
theorem V_strlen (X : EX p s m args meth c G N0 own cc nL) {index w : Nat} (hw : w < 3) (hl : Cond.methodLink own index yJ0_length_8abf5 ∈ wAll) (hcat : (st.map fun v => v.category).sum ≤ 8) (hR : 8 ≤ R.frames ∧ 300 ≤ R.locals) (hf : cu ≤ R.cells ∧ su ≤ R.slots) (hd : decode cc pc = .ok (.invokevirtual index, 3)) (k : V p l e R s m args below meth c Q G N0 nL σ cu su (pc + 3) lv (.int (nI (strL.getD w 0)) :: st)) : V p l e R s m args below meth c Q G N0 nL σ cu su pc lv (.ref (G.2.2.1 w) :: st) := by
  sorry
theorem V_strchr (X : EX p s m args meth c G N0 own cc nL) {index w : Nat} {j : Int32} (hw : w < 3) (hj : vp_in j (strL.getD w 0)) (hl : Cond.methodLink own index yJ0_charAt_5068e ∈ wAll) (hcat : (st.map fun v => v.category).sum ≤ 8) (hR : 8 ≤ R.frames ∧ 300 ≤ R.locals) (hf : cu ≤ R.cells ∧ su ≤ R.slots) (hd : decode cc pc = .ok (.invokevirtual index, 3)) (k : V p l e R s m args below meth c Q G N0 nL σ cu su (pc + 3) lv (.int ((strB.getD w []).getD j.toNatClampNeg 0) :: st)) : V p l e R s m args below meth c Q G N0 nL σ cu su pc lv (.int j :: .ref (G.2.2.1 w) :: st) := by
  sorry
end STR
