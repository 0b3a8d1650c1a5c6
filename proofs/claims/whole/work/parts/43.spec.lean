/-! the paper: what it is, uncut: marks, each with the row that it is a value of (else -1), and which rows have begun -/
abbrev PST : Type := List (Int32 × Int32) × (Nat → Bool)
def pad (st : PST) (mk row : Int32) : PST := (st.1 ++ [(mk, row)], st.2)
/-- through those from v on, m of them, that are ok -/
def fo (ok : Nat → Bool) (f : Nat → PST → PST) : Nat → Nat → PST → PST
  | 0, _, st => st
  | m + 1, v, st => fo ok f m (v + 1) (if ok v = true then f v st else st)
def rf (d : RD) (r : Nat) : Int32 := if r = 0 then d.2.2.1 else d.2.2.2.1
abbrev upok (ρ : RM) (tb to : Int32) : Prop := stn ρ to ∧ (ρ.2 to.toNatClampNeg).1 = tb
def dnok (ρ : RM) (tb : Int32) (r : Nat) (row v : Nat) : Bool := decide (upok ρ tb (nI v) ∧ rf (ρ.2 v) r = nI row)
def gI (g : Nat → Nat → PST → PST) (ρ : RM) (sh : SHT) (row i : Nat) (st : PST) : PST :=
  if (sh.2.2.2 i).2.1 = 0 then pad st (ρ.2 row).2.1 (nI row)
  else if (sh.2.2.2 i).2.1 = 1 then (if upok ρ (sh.2.1 (sh.2.2.2 i).2.2.2) (rf (ρ.2 row) (sh.2.2.2 i).2.2.1) then g (sh.2.2.2 i).2.2.2 (rf (ρ.2 row) (sh.2.2.2 i).2.2.1).toNatClampNeg st else st)
  else fo (dnok ρ (sh.2.1 (sh.2.2.2 i).2.2.2) (sh.2.2.2 i).2.2.1 row) (g (sh.2.2.2 i).2.2.2) ρ.1 0 st
def gO (sh : SHT) (p : Nat) (i : Nat) : Bool := decide ((sh.2.2.2 i).1 = p)
def gB (st : PST) (row : Nat) : PST := pad (st.1, fun r => if r = row then true else st.2 r) (10000 + nI row) (-1)
def gP (ρ : RM) (sh : SHT) : Nat → Nat → Nat → PST → PST
  | 0, _, _, st => st
  | d + 1, p, row, st => if st.2 row = true then pad st (20000 + nI row) (-1) else pad (fo (gO sh p) (gI (gP ρ sh d) ρ sh row) sh.2.2.1 0 (gB st row)) 30000 (-1)
/-- the paper of row x -/
def gM (ρ : RM) (sh : SHT) (x : Int32) : PST := if sh.1 ≠ 0 ∧ upok ρ (sh.2.1 0) x then gP ρ sh 7 0 x.toNatClampNeg ([], fun _ => false) else ([], fun _ => false)
theorem pad_pre (st : PST) (a b : Int32) : st.1 <+: (pad st a b).1 := ⟨[(a, b)], rfl⟩
theorem fo_pre {ok : Nat → Bool} {f : Nat → PST → PST} (hf : ∀ v st, st.1 <+: (f v st).1) : ∀ m v st, st.1 <+: (fo ok f m v st).1
  | 0, _, st => List.prefix_rfl
  | m + 1, v, st => by
    refine List.IsPrefix.trans ?_ (fo_pre hf m (v + 1) _)
    split
    · exact hf v st
    · exact List.prefix_rfl
theorem gI_pre {g : Nat → Nat → PST → PST} (hg : ∀ p r st, st.1 <+: (g p r st).1) (ρ : RM) (sh : SHT) (row i : Nat) (st : PST) : st.1 <+: (gI g ρ sh row i st).1 := by
  unfold gI
  split
  · exact pad_pre _ _ _
  · split
    · split
      · exact hg _ _ _
      · exact List.prefix_rfl
    · exact fo_pre (hg _) _ _ _
theorem gP_pre (ρ : RM) (sh : SHT) : ∀ d p row st, st.1 <+: (gP ρ sh d p row st).1
  | 0, _, _, _ => List.prefix_rfl
  | d + 1, p, row, st => by
    unfold gP
    split
    · exact pad_pre _ _ _
    · have h1 : st.1 <+: (gB st row).1 := pad_pre (st.1, _) _ _
      exact (h1.trans (fo_pre (gI_pre (gP_pre ρ sh d) ρ sh row) _ _ _)).trans (pad_pre _ _ _)
/-- the marks that a paper shows: no more than 600 -/
def cut (l : List (Int32 × Int32)) : Nat := if l.length < 600 then l.length else 600
def mk1 (l : List (Int32 × Int32)) (k : Nat) : Int32 := (l.getD k (0, 0)).1
def mk2 (l : List (Int32 × Int32)) (k : Nat) : Int32 := (l.getD k (0, 0)).2
theorem cut_le (l : List (Int32 × Int32)) : cut l ≤ 600 := by unfold cut; split <;> omega
theorem cut_len (l : List (Int32 × Int32)) : cut l ≤ l.length := by unfold cut; split <;> omega
theorem pre_getD {l l' : List (Int32 × Int32)} (h : l <+: l') {k : Nat} (hk : k < l.length) : l'.getD k (0, 0) = l.getD k (0, 0) := by
  obtain ⟨t, rfl⟩ := h
  rw [List.getD_eq_getElem?_getD, List.getD_eq_getElem?_getD, List.getElem?_append_left hk]
theorem pre_cut {l l' : List (Int32 × Int32)} (h : l <+: l') (hl : ¬ l.length < 600) : cut l' = cut l ∧ (∀ k, k < cut l → mk1 l' k = mk1 l k) ∧ (∀ k, k < cut l → mk2 l' k = mk2 l k) := by
  have h1 := h.length_le
  have h2 := cut_len l
  refine ⟨by unfold cut; rw [if_neg (by omega), if_neg hl], fun k hk => ?_, fun k hk => ?_⟩
  · unfold mk1; rw [pre_getD h (by omega)]
  · unfold mk2; rw [pre_getD h (by omega)]
theorem pad_cut (st : PST) (a b : Int32) (h : st.1.length < 600) : cut (pad st a b).1 = cut st.1 + 1 ∧ cut st.1 = st.1.length ∧ (∀ k, k < cut st.1 + 1 → mk1 (pad st a b).1 k = if k = cut st.1 then a else mk1 st.1 k) ∧ (∀ k, k < cut st.1 + 1 → mk2 (pad st a b).1 k = if k = cut st.1 then b else mk2 st.1 k) := by
  have hc : cut st.1 = st.1.length := by unfold cut; rw [if_pos h]
  have hl : (pad st a b).1.length = st.1.length + 1 := by unfold pad; simp
  have hg : ∀ k, k < st.1.length + 1 → (pad st a b).1.getD k (0, 0) = if k = st.1.length then (a, b) else st.1.getD k (0, 0) := fun k hk => by
    by_cases hq : k = st.1.length
    · rw [if_pos hq, hq]
      show (st.1 ++ [(a, b)]).getD _ _ = _
      rw [List.getD_eq_getElem?_getD, List.getElem?_append_right (Nat.le_refl _)]
      simp
    · rw [if_neg hq]
      exact pre_getD (pad_pre st a b) (by omega)
  refine ⟨?_, hc, fun k hk => ?_, fun k hk => ?_⟩
  · rw [hc]; unfold cut
    split <;> omega
  · rw [hc] at hk ⊢
    unfold mk1
    rw [hg k hk]; split <;> rfl
  · rw [hc] at hk ⊢
    unfold mk2
    rw [hg k hk]; split <;> rfl
/-! which rows have begun, as bits -/
def BT (x : Int64) (f : Nat → Bool) : Prop := ∀ r, r < 60 → x.toBitVec.getLsbD r = f r
theorem bit_r : ∀ r, r < 60 → ((1 : Int64) <<< (Int32.toInt64 (nI r) &&& 63)).toBitVec = BitVec.twoPow 64 r := by decide +kernel
theorem BT.get {x : Int64} {f : Nat → Bool} (h : BT x f) {r : Nat} (hr : r < 60) : lg_cmp (x &&& ((1 : Int64) <<< (Int32.toInt64 (nI r) &&& 63))) (0 : Int64) = 0 ↔ f r = false := by
  rw [lg_cmp_eq, ← Int64.toBitVec_inj, Int64.toBitVec_and, bit_r r hr, BitVec.and_twoPow, h r hr]
  have hz : BitVec.twoPow 64 r ≠ 0#64 := fun z => by
    have := congrArg (fun v => v.getLsbD r) z
    simp [BitVec.getLsbD_twoPow] at this
    omega
  cases f r
  · simp
  · simp only [if_true]
    exact ⟨fun z => absurd z hz, fun z => by cases z⟩
theorem BT.put {x : Int64} {f : Nat → Bool} (h : BT x f) {r : Nat} (hr : r < 60) : BT (x ||| ((1 : Int64) <<< (Int32.toInt64 (nI r) &&& 63))) (fun q => if q = r then true else f q) := fun q hq => by
  rw [Int64.toBitVec_or, bit_r r hr, BitVec.getLsbD_or, h q hq, BitVec.getLsbD_twoPow]
  by_cases hqr : q = r
  · subst hqr
    simp; omega
  · show _ = if q = r then true else f q
    rw [if_neg hqr]
    simp [Ne.symm hqr]
theorem BT.zero : BT 0 (fun _ => false) := fun r _ => by
  show (0#64).getLsbD r = false
  simp
