/-! what row, value, refer, go do: answer, rows and moments, status -/
def tellG (g : G1) (i : Nat) (d : RD) : G1 := (setR g.1 i d, (fun k => if k = g.2.2 + 1 then setR g.1 i d else g.2.1 k), g.2.2 + 1)
abbrev OPT : Type := Int32 × G1 × Int32
abbrev isV (v : Int32) : Prop := -1000 ≤ v.toInt ∧ v.toInt ≤ 1000
abbrev refd (ρ : RM) (x : Int32) : Prop := x = -1 ∨ stn ρ x
def oRow (g : G1) (t v r0 r1 : Int32) : OPT := if ¬ ((0 ≤ t.toInt ∧ t.toInt < 4) ∧ isV v) then (-1, g, -1) else if ¬ (refd g.1 r0 ∧ refd g.1 r1) then (-2, g, -2) else if g.1.1 = 60 ∨ g.2.2 = 300 then (-5, g, -5) else (nI g.1.1, tellG g g.1.1 (t, v, r0, r1, 1), 0)
def oValue (g : G1) (x v : Int32) : OPT := if ¬ isV v then (-1, g, -1) else if ¬ stn g.1 x then (-2, g, -2) else if g.2.2 = 300 then (-5, g, -5) else ((g.1.2 x.toNatClampNeg).2.1, tellG g x.toNatClampNeg ((g.1.2 x.toNatClampNeg).1, v, (g.1.2 x.toNatClampNeg).2.2), 0)
def oRefer (g : G1) (x r to : Int32) : OPT := if ¬ (r = 0 ∨ r = 1) then (-1, g, -1) else if ¬ (stn g.1 x ∧ refd g.1 to) then (-2, g, -2) else if g.2.2 = 300 then (-5, g, -5) else (0, tellG g x.toNatClampNeg (if r = 0 then ((g.1.2 x.toNatClampNeg).1, (g.1.2 x.toNatClampNeg).2.1, to, (g.1.2 x.toNatClampNeg).2.2.2) else ((g.1.2 x.toNatClampNeg).1, (g.1.2 x.toNatClampNeg).2.1, (g.1.2 x.toNatClampNeg).2.2.1, to, (g.1.2 x.toNatClampNeg).2.2.2.2)), 0)
def oGo (g : G1) (x : Int32) : OPT := if ¬ stn g.1 x then (-2, g, -2) else if g.2.2 = 300 then (-5, g, -5) else (0, tellG g x.toNatClampNeg ((g.1.2 x.toNatClampNeg).1, (g.1.2 x.toNatClampNeg).2.1, (g.1.2 x.toNatClampNeg).2.2.1, (g.1.2 x.toNatClampNeg).2.2.2.1, 0), 0)
def oOf (ρ : RM) (x w : Int32) : Int32 := if ¬ (0 ≤ x.toInt ∧ x.toInt < ρ.1) then -5000 else if w.toInt = 0 then (ρ.2 x.toNatClampNeg).1 else if w.toInt = 1 then (ρ.2 x.toNatClampNeg).2.1 else if w.toInt = 2 then (ρ.2 x.toNatClampNeg).2.2.1 else if w.toInt = 3 then (ρ.2 x.toNatClampNeg).2.2.2.1 else if w.toInt = 4 then (if (ρ.2 x.toNatClampNeg).2.2.2.2 = 0 then 0 else 1) else -5000
/-- a cell of the class's -/
def S8 (c : Nat → Nat) (rc b : Nat) : Prop := ∃ i, k8 rc i ≠ none ∧ b = c i
theorem S8.il {c : Nat → Nat} {rc : Nat} {l : List Nat} (hl : ∀ i ∈ l, i < 26) {b : Nat} (h : IL c l b) : S8 c rc b := by
  obtain ⟨i, hi, e⟩ := h
  exact ⟨i, k8_n (hl i hi), e⟩
theorem IL.not {σ : Hp} {c : Nat → Nat} {rc s : Nat} (hL : L8 σ c rc s) {l : List Nat} (hl : ∀ i ∈ l, i < 26) {i : Nat} (hi : k8 rc i ≠ none) (hn : i ∉ l) : ¬ IL c l (c i) := fun ⟨j, hj, e⟩ => hn (by rw [hL.2.1 i j hi (k8_n (hl j hj)) e]; exact hj)
theorem IL.n4 {σ : Hp} {c : Nat → Nat} {rc s : Nat} (hL : L8 σ c rc s) {l : List Nat} (hl : ∀ i ∈ l, i < 26) {q : Nat} (hq : gk σ q = some (4, 0)) : ¬ IL c l q := fun ⟨j, hj, e⟩ => hL.n4 (k8_n (hl j hj)) hq e
section T8X
variable {σ σ' : Hp} {c : Nat → Nat} {s : Nat} {g : G1} {t : G2} {sh : SHT} {rl : RLT} {sc : SCT}
theorem T8.L (h : T8 σ c s g t sh rl sc) : L8 σ c rl.1 s := h.1
/-- only ints of the object itself change: its scalars -/
theorem T8.obj (h : T8 σ c s g t sh rl sc) (hA : Ag (IL c [0]) (fun _ => False) σ σ') {sc' : SCT} (hs : SC8 σ' c rl.1 sc') : T8 σ' c s g t sh rl sc' := by
  obtain ⟨h1, h2, h3, h5, h6, h7, h8⟩ := h
  have hs8 : s = 8 ∨ s = 14 := h1.2.2.2.1.1
  have n : ∀ i, i < 26 → i ≠ 0 → ¬ IL c [0] (c i) := fun i hi h0 => IL.not h1 (by decide) (k8_n hi) (by simpa using h0)
  exact ⟨h1.ag hA (fun i hi hT => hT.elim), h2.ag hA (n 1 (by decide) (by decide)) id id (fun q hq => IL.n4 h1 (by decide) hq), h3.ag hA (n 3 (by decide) (by decide)) id id (fun q hq => IL.n4 h1 (by decide) hq), h5.ag h1 hA (n 5 (by decide) (by decide)) (n 6 (by decide) (by decide)), h6.ag h1 hA (fun k hk => n (s + k) (by omega) (by omega)), h7.ag h1 hA (fun i hi26 hi => IL.not h1 (by decide) hi (by simp; omega)), hs⟩
theorem T8.stat (h : T8 σ c s g t sh rl sc) (v : Int32) : T8 (si σ (c 0) 8 v) c s g t sh rl (sc.1, sc.2.1, v) := by
  refine h.obj (Ag.rf.wi _ (Or.inl ⟨0, by decide, rfl⟩)) ?_
  obtain ⟨h1, h2, h3, h4⟩ := h.2.2.2.2.2.2
  exact ⟨by rw [gi_sk (by decide)]; exact h1, by rw [gi_sk (by decide)]; exact h2, by rw [gi_sk (by decide)]; exact h3, gi_ss⟩
theorem Ag.obj {S T : Nat → Prop} (hA : Ag S T σ σ') {v : Int32} {k : Nat} (hS : S (c 0)) : Ag S T σ (si σ' (c 0) k v) := hA.wi _ (Or.inl hS)
theorem T8.told (h : T8 σ c s g t sh rl sc) {i : Nat} {d : RD} (hA : Ag (IL c [1, 3]) (IL c [2, 4]) σ σ') (hL : L8 σ' c rl.1 s) (hR : RS σ' (c 1) (c 2) (setR g.1 i d)) (hH : HS σ' (c 3) (c 4) (fun k => if k = g.2.2 + 1 then setR g.1 i d else g.2.1 k) (g.2.2 + 1)) : T8 σ' c s (tellG g i d) t sh rl sc := by
  obtain ⟨h1, h2, h3, h5, h6, h7, h8⟩ := h
  have hs8 : s = 8 ∨ s = 14 := h1.2.2.2.1.1
  have n : ∀ i, i < 26 → i ∉ [1, 3] → ¬ IL c [1, 3] (c i) := fun i hi h0 => IL.not h1 (by decide) (k8_n hi) h0
  exact ⟨hL, hR, hH, h5.ag h1 hA (n 5 (by decide) (by decide)) (n 6 (by decide) (by decide)), h6.ag h1 hA (fun k hk => n (s + k) (by omega) (by simp; omega)), h7.ag h1 hA (fun i hi26 hi => IL.not h1 (by decide) hi (by simp; omega)), h8.ag h1 hA (n 0 (by decide) (by decide))⟩
theorem X8_refused {v : Int32} {post : Int32 → Hp → Prop} (hL : L8 σ c rl.1 s) (hp : post v (si σ (c 0) 8 v)) : P_X8_refused (c 0) v σ post := ⟨hL.k 0 (by decide) rfl, hp⟩
theorem X8_answered {v : Int32} {post : Int32 → Hp → Prop} (hL : L8 σ c rl.1 s) (hp : post v (si σ (c 0) 8 0)) : P_X8_answered (c 0) v σ post := ⟨hL.k 0 (by decide) rfl, hp⟩
theorem X8_canBe {x : Int32} {post : Int32 → Hp → Prop} (h : T8 σ c s g t sh rl sc) (hp : post (if refd g.1 x then 1 else 0) σ) : P_X8_canBeReferredTo (c 0) x σ post := by
  unfold P_X8_canBeReferredTo
  refine ⟨fun hx => ?_, fun hx => ⟨h.1.k 0 (by decide) rfl, c 1, h.1.r 0 0 1 (by decide), h.1.k 1 (by decide) rfl, X5_standing h.2.1 ?_⟩⟩
  · rwa [if_pos (Or.inl hx)] at hp
  · by_cases hs : stn g.1 x
    · obtain ⟨q, hq, -⟩ := h.2.1.row hs.1
      rw [if_pos hs, hq]
      rw [if_pos (Or.inr hs)] at hp
      exact ⟨fun z => (by cases z), fun _ _ => hp⟩
    · rw [if_neg hs]
      rw [if_neg (fun z => z.elim hx hs)] at hp
      exact ⟨fun _ => hp, fun b z => by cases z⟩
theorem T8_value {x v : Int32} {post : Int32 → Hp → Prop} (h : T8 σ c s g t sh rl sc) (hg : G1ok g) (hp : ∀ σ', T8 σ' c s (oValue g x v).2.1 t sh rl (sc.1, sc.2.1, (oValue g x v).2.2) → Ag (S8 c rl.1) (S8 c rl.1) σ σ' → post (oValue g x v).1 σ') : P_X8_value (c 0) x v σ post := by
  have s0 : S8 c rl.1 (c 0) := ⟨0, k8_n (by decide), rfl⟩
  have hL := h.1
  unfold P_X8_value
  refine X8_isValue ⟨fun hv => ?_, fun hv => ⟨hL.k 0 (by decide) rfl, X8_refused hL ?_⟩⟩
  rotate_left
  · have hn : ¬ isV v := fun z => by rw [if_pos z] at hv; exact absurd hv (by decide)
    have he : oValue g x v = (-1, g, -1) := by unfold oValue; rw [if_pos hn]
    rw [he] at hp
    exact hp _ (h.stat _) (Ag.rf.wi _ (Or.inl s0))
  have hV : isV v := Classical.byContradiction fun z => hv (by rw [if_neg z])
  refine ⟨hL.k 0 (by decide) rfl, c 1, hL.r 0 0 1 (by decide), hL.k 1 (by decide) rfl, X5_standing h.2.1 ?_⟩
  by_cases hs : stn g.1 x
  rotate_left
  · rw [if_neg hs]
    have he : oValue g x v = (-2, g, -2) := by unfold oValue; rw [if_neg (fun z => z hV), if_pos hs]
    rw [he] at hp
    exact ⟨fun _ => ⟨hL.k 0 (by decide) rfl, X8_refused hL (hp _ (h.stat _) (Ag.rf.wi _ (Or.inl s0)))⟩, fun b z => by cases z⟩
  obtain ⟨q, hq, hw⟩ := h.2.1.row hs.1
  rw [if_pos hs, hq]
  refine ⟨fun z => (by cases z), fun b hb => ?_⟩
  cases hb
  refine ⟨hL.k 0 (by decide) rfl, c 3, hL.r 0 1 3 (by decide), hL.k 3 (by decide) rfl, X0_isFull h.2.2.1 ⟨fun hm => ?_, fun hm => ⟨hL.k 0 (by decide) rfl, X8_refused hL ?_⟩⟩⟩
  rotate_left
  · have hm3 : g.2.2 = 300 := Classical.byContradiction fun z => hm (by rw [if_neg z])
    have he : oValue g x v = (-5, g, -5) := by unfold oValue; rw [if_neg (fun z => z hV), if_neg (fun z => z hs), if_pos hm3]
    rw [he] at hp
    exact hp _ (h.stat _) (Ag.rf.wi _ (Or.inl s0))
  have hm3 : g.2.2 ≠ 300 := fun z => by rw [if_pos z] at hm; exact absurd hm (by decide)
  have hm4 : g.2.2 ≤ 300 := h.2.2.1.2.2.2.2.1
  have he : oValue g x v = ((g.1.2 x.toNatClampNeg).2.1, tellG g x.toNatClampNeg ((g.1.2 x.toNatClampNeg).1, v, (g.1.2 x.toNatClampNeg).2.2), 0) := by unfold oValue; rw [if_neg (fun z => z hV), if_neg (fun z => z hs), if_neg hm3]
  rw [he] at hp
  have hi : x.toNatClampNeg < g.1.1 := by rw [icl]; omega
  have hwf := (hg.2.2 g.2.2 (Nat.le_refl _))
  rw [hg.1] at hwf
  have h60 := hwf.1
  refine ⟨hw.1, X4_withValue (S := fun _ => False) (T := fun _ => False) hw (hwf.2 _ hi).1 (fun q2 σ2 hq2 hA2 hw2 => ⟨q2, rfl, ?_⟩)⟩
  have h2 : T8 σ2 c s g t sh rl sc := h.ag hA2 (fun _ _ => ⟨id, id⟩) (fun _ _ => id)
  have hA2' : Ag (S8 c rl.1) (S8 c rl.1) σ σ2 := hA2.mono (fun _ z => z.elim) (fun _ z => z.elim)
  refine ⟨h2.1.k 0 (by decide) rfl, X8_tell h2.1 h2.2.1 h2.2.2.1 hg.1 hw2 (by omega) (by omega) (by omega) (fun σ3 hA3 hL3 hR3 hH3 => ?_)⟩
  have h3 := h2.told hA3 hL3 hR3 hH3
  have hA3' : Ag (S8 c rl.1) (S8 c rl.1) σ2 σ3 := hA3.mono (fun _ z => S8.il (by decide) z) (fun _ z => S8.il (by decide) z)
  have hwo : RW σ3 q x.toNatClampNeg (g.1.2 x.toNatClampNeg) := (hw.ag hA2 id).ag hA3 (IL.n4 h2.1 (by decide) (hw.ag hA2 id).1)
  refine ⟨hwo.1, hL3.k 0 (by decide) rfl, X8_answered hL3 ?_⟩
  rw [hwo.2.2.2.1]
  exact hp _ (h3.stat _) ((hA2'.tr hA3').wi _ (Or.inl s0))
end T8X
