/-! the row around a mark -/
def psh (S : List Int32) (m : Int32) : List Int32 := if m = 30000 then S.tail else if 10000 ≤ m.toInt ∧ m.toInt < 20000 then (m - 10000) :: S else S
def stkL (S : List Int32) : List (Int32 × Int32) → List Int32
  | [] => S
  | x :: l => stkL (psh S x.1) l
def OKL (n : Nat) (S : List Int32) : List (Int32 × Int32) → Prop
  | [] => True
  | x :: l => ((x.2 = -1 ∧ ¬ isV x.1) ∨ ∃ i, i < n ∧ x.2 = nI i ∧ isV x.1 ∧ S.getD 0 (-1) = nI i) ∧ OKL n (psh S x.1) l
theorem stkL_app (l l' : List (Int32 × Int32)) : ∀ S, stkL S (l ++ l') = stkL (stkL S l) l' := by
  induction l with
  | nil => intro S; rfl
  | cons x l ih => intro S; exact ih _
theorem OKL_app {n : Nat} (l l' : List (Int32 × Int32)) : ∀ S, OKL n S l → OKL n (stkL S l) l' → OKL n S (l ++ l') := by
  induction l with
  | nil => intro S _ h; exact h
  | cons x l ih => intro S h h'; exact ⟨h.1, ih _ h.2 h'⟩
/-- what is added behind st keeps the pile, and each of its marks its row -/
def AOK (n : Nat) (S : List Int32) (st st' : PST) : Prop := ∃ l, st'.1 = st.1 ++ l ∧ OKL n S l ∧ stkL S l = S
theorem AOK.rf {n : Nat} {S : List Int32} {st : PST} : AOK n S st st := ⟨[], by simp, True.intro, rfl⟩
theorem AOK.tr {n : Nat} {S : List Int32} {st st1 st2 : PST} (h : AOK n S st st1) (h' : AOK n S st1 st2) : AOK n S st st2 := by
  obtain ⟨l, e, o, k⟩ := h
  obtain ⟨l', e', o', k'⟩ := h'
  exact ⟨l ++ l', by rw [e', e, List.append_assoc], OKL_app _ _ _ o (by rw [k]; exact o'), by rw [stkL_app, k, k']⟩
theorem fo_AOK {n : Nat} {S : List Int32} {ok : Nat → Bool} {f : Nat → PST → PST} : ∀ m v st, (∀ v', v' < v + m → ok v' = true → ∀ st, AOK n S st (f v' st)) → AOK n S st (fo ok f m v st)
  | 0, _, _, _ => AOK.rf
  | m + 1, v, st, hf => by
    have h2 := fo_AOK (ok := ok) (f := f) m (v + 1) (if ok v = true then f v st else st) (fun v' hv => hf v' (by omega))
    refine AOK.tr ?_ h2
    by_cases h : ok v = true
    · rw [if_pos h]; exact hf v (by omega) h st
    · rw [if_neg h]; exact AOK.rf
theorem psh_no {S : List Int32} {m : Int32} (h : m.toInt < 10000 ∨ 20000 ≤ m.toInt ∧ m.toInt < 30000) : psh S m = S := by
  unfold psh
  rw [if_neg (by rw [ieq, show (30000 : Int32).toInt = 30000 by decide]; omega), if_neg (by omega)]
theorem mk_at {b : Nat} {row : Nat} (hb : b ≤ 30000) (hr : row < 60) : (nI b + nI row).toInt = (b : Int) + row := by
  rw [nI_add, nIi (by omega)]; omega
theorem gP_AOK {ρ : RM} {sh : SHT} (hW : WFR ρ) : ∀ d p row st S, row < ρ.1 → AOK ρ.1 S st (gP ρ sh d p row st) := by
  intro d
  have h60 := hW.1
  induction d with
  | zero => intro p row st S hr; exact AOK.rf
  | succ d ih =>
    intro p row st S hr
    have e1 : ((10000 : Int32) + nI row).toInt = 10000 + (row : Int) := mk_at (b := 10000) (by decide) (by omega)
    have e2 : ((20000 : Int32) + nI row).toInt = 20000 + (row : Int) := mk_at (b := 20000) (by decide) (by omega)
    have e3 : (30000 : Int32).toInt = 30000 := by decide
    have e4 : (10000 : Int32) + nI row - 10000 = nI row := by
      rw [ieq, isub (by rw [e1]; show _ ≤ 10000 + (row : Int) - 10000; omega) (by rw [e1]; show 10000 + (row : Int) - 10000 < _; omega), e1, nIi (by omega)]
      show 10000 + (row : Int) - 10000 = _
      omega
    unfold gP
    by_cases hb : st.2 row = true
    · rw [if_pos hb]
      refine ⟨[(20000 + nI row, -1)], rfl, ⟨Or.inl ⟨rfl, fun z => ?_⟩, True.intro⟩, psh_no ?_⟩
      · have : ((20000 : Int32) + nI row).toInt ≤ 1000 := z.2
        omega
      · show ((20000 : Int32) + nI row).toInt < 10000 ∨ 20000 ≤ ((20000 : Int32) + nI row).toInt ∧ ((20000 : Int32) + nI row).toInt < 30000
        omega
    · rw [if_neg hb]
      have hin : AOK ρ.1 (nI row :: S) (gB st row) (fo (gO sh p) (gI (gP ρ sh d) ρ sh row) sh.2.2.1 0 (gB st row)) := by
        refine fo_AOK _ _ _ (fun i _ _ st => ?_)
        unfold gI
        split
        · have hv := (hW.2 row hr).2.2.2.2
          refine ⟨[((ρ.2 row).2.1, nI row)], rfl, ⟨Or.inr ⟨row, hr, rfl, hv, rfl⟩, True.intro⟩, psh_no (Or.inl ?_)⟩
          show (ρ.2 row).2.1.toInt < 10000
          omega
        · split
          · split
            · rename_i q
              exact ih _ _ _ _ (by rw [icl]; have := q.1.1; omega)
            · exact AOK.rf
          · exact fo_AOK _ _ _ (fun v hv _ st => ih _ _ _ _ (by omega))
      obtain ⟨l, e, o, k⟩ := hin
      have hs1 : psh S ((10000 : Int32) + nI row) = nI row :: S := by
        unfold psh
        rw [if_neg (by rw [ieq, e1, e3]; omega), if_pos (by omega), e4]
      refine ⟨(10000 + nI row, -1) :: (l ++ [(30000, -1)]), ?_, ⟨Or.inl ⟨rfl, fun z => ?_⟩, ?_⟩, ?_⟩
      · show (fo (gO sh p) (gI (gP ρ sh d) ρ sh row) sh.2.2.1 0 (gB st row)).1 ++ [(30000, -1)] = _
        rw [e]
        show (st.1 ++ [(10000 + nI row, -1)]) ++ l ++ _ = _
        simp
      · have : ((10000 : Int32) + nI row).toInt ≤ 1000 := z.2
        omega
      · show OKL ρ.1 (psh S ((10000 : Int32) + nI row)) _
        rw [hs1]
        exact OKL_app _ _ _ o ⟨Or.inl ⟨rfl, by decide⟩, True.intro⟩
      · show stkL (psh S ((10000 : Int32) + nI row)) _ = _
        rw [hs1, stkL_app, k]
        rfl
theorem gM_OKL {ρ : RM} {sh : SHT} (hW : WFR ρ) (x : Int32) : OKL ρ.1 [] (gM ρ sh x).1 := by
  unfold gM
  split
  · rename_i q
    obtain ⟨l, e, o, -⟩ := gP_AOK (sh := sh) hW 7 0 x.toNatClampNeg ([], fun _ => false) [] (by rw [icl]; have := q.2.1.1; omega)
    rw [e]; exact o
  · exact True.intro
