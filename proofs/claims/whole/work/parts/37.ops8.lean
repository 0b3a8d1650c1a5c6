/-! what row, value, refer, go do: answer, rows and moments, status -/
def tellG (g : G1) (i : Nat) (d : RD) : G1 := (setR g.1 i d, (fun k => if k = g.2.2 + 1 then setR g.1 i d else g.2.1 k), g.2.2 + 1)
abbrev OPT : Type := Int32 × G1 × Int32
abbrev isV (v : Int32) : Prop := -1000 ≤ v.toInt ∧ v.toInt ≤ 1000
abbrev refd (ρ : RM) (x : Int32) : Prop := x = -1 ∨ stn ρ x
def oRow (g : G1) (t v r0 r1 : Int32) : OPT := if ¬ ((0 ≤ t.toInt ∧ t.toInt < 4) ∧ isV v) then (-1, g, -1) else if ¬ (refd g.1 r0 ∧ refd g.1 r1) then (-2, g, -2) else if g.1.1 = 60 ∨ g.2.2 = 300 then (-5, g, -5) else (nI g.1.1, tellG g g.1.1 (t, v, r0, r1, 1), 0)
def oValue (g : G1) (x v : Int32) : OPT := if ¬ isV v then (-1, g, -1) else if ¬ stn g.1 x then (-2, g, -2) else if g.2.2 = 300 then (-5, g, -5) else ((g.1.2 x.toNatClampNeg).2.1, tellG g x.toNatClampNeg ((g.1.2 x.toNatClampNeg).1, v, (g.1.2 x.toNatClampNeg).2.2), 0)
def oRefer (g : G1) (x r to : Int32) : OPT := if ¬ (r = 0 ∨ r = 1) then (-1, g, -1) else if ¬ (stn g.1 x ∧ refd g.1 to) then (-2, g, -2) else if g.2.2 = 300 then (-5, g, -5) else (0, tellG g x.toNatClampNeg (if r = 0 then ((g.1.2 x.toNatClampNeg).1, (g.1.2 x.toNatClampNeg).2.1, to, (g.1.2 x.toNatClampNeg).2.2.2) else ((g.1.2 x.toNatClampNeg).1, (g.1.2 x.toNatClampNeg).2.1, (g.1.2 x.toNatClampNeg).2.2.1, to, (g.1.2 x.toNatClampNeg).2.2.2.2)), 0)
def oGo (g : G1) (x : Int32) : OPT := if ¬ stn g.1 x then (-2, g, -2) else if g.2.2 = 300 then (-5, g, -5) else (0, tellG g x.toNatClampNeg ((g.1.2 x.toNatClampNeg).1, (g.1.2 x.toNatClampNeg).2.1, (g.1.2 x.toNatClampNeg).2.2.1, (g.1.2 x.toNatClampNeg).2.2.2.1, 0), 0)
def oOf (ρ : RM) (x w : Int32) : Int32 := if ¬ (0 ≤ x.toInt ∧ x.toInt < ρ.1) then -5000 else if w.toInt = 0 then (ρ.2 x.toNatClampNeg).1 else if w.toInt = 1 then (ρ.2 x.toNatClampNeg).2.1 else if w.toInt = 2 then (ρ.2 x.toNatClampNeg).2.2.1 else if w.toInt = 3 then (ρ.2 x.toNatClampNeg).2.2.2.1 else if w.toInt = 4 then (if (ρ.2 x.toNatClampNeg).2.2.2.2 = 0 then 0 else 1) else -5000
/-- a cell of the class's -/
def S8 (c : Nat → Nat) (rc b : Nat) : Prop := ∃ i, k8 rc i ≠ none ∧ b = c i
theorem S8.il {c : Nat → Nat} {rc : Nat} {l : List Nat} (hl : ∀ i ∈ l, i < 26) {b : Nat} (h : IL c l b) : S8 c rc b := by
  obtain ⟨i, hi, e⟩ := h
  exact ⟨i, k8_n (hl i hi), e⟩
theorem IL.not {σ : Hp} {c : Nat → Nat} {rc s : Nat} (hL : L8 σ c rc s) {l : List Nat} (hl : ∀ i ∈ l, i < 26) {i : Nat} (hi : k8 rc i ≠ none) (hn : i ∉ l) : ¬ IL c l (c i) := fun ⟨j, hj, e⟩ => hn (by rw [hL.2.1 i j hi (k8_n (hl j hj)) e]; exact hj)
theorem IL.n4 {σ : Hp} {c : Nat → Nat} {rc s : Nat} (hL : L8 σ c rc s) {l : List Nat} (hl : ∀ i ∈ l, i < 26) {q : Nat} (hq : gk σ q = some (4, 0)) : ¬ IL c l q := fun ⟨j, hj, e⟩ => hL.n4 (k8_n (hl j hj)) hq e
section T8X
variable {σ σ' : Hp} {c : Nat → Nat} {s : Nat} {g : G1} {t : G2} {sh : SHT} {rl : RLT} {sc : SCT}
theorem T8.L (h : T8 σ c s g t sh rl sc) : L8 σ c rl.1 s := h.1
/-- only ints of the object itself change: its scalars -/
theorem T8.obj (h : T8 σ c s g t sh rl sc) (hA : Ag (IL c [0]) (fun _ => False) σ σ') {sc' : SCT} (hs : SC8 σ' c rl.1 sc') : T8 σ' c s g t sh rl sc' := by
  obtain ⟨h1, h2, h3, h5, h6, h7, h8⟩ := h
  have hs8 : s = 8 ∨ s = 14 := h1.2.2.2.1.1
  have n : ∀ i, i < 26 → i ≠ 0 → ¬ IL c [0] (c i) := fun i hi h0 => IL.not h1 (by decide) (k8_n hi) (by simpa using h0)
  exact ⟨h1.ag hA (fun i hi hT => hT.elim), h2.ag hA (n 1 (by decide) (by decide)) id id (fun q hq => IL.n4 h1 (by decide) hq), h3.ag hA (n 3 (by decide) (by decide)) id id (fun q hq => IL.n4 h1 (by decide) hq), h5.ag h1 hA (n 5 (by decide) (by decide)) (n 6 (by decide) (by decide)), h6.ag h1 hA (fun k hk => n (s + k) (by omega) (by omega)), h7.ag h1 hA (fun i hi26 hi => IL.not h1 (by decide) hi (by simp; omega)), hs⟩
theorem T8.stat (h : T8 σ c s g t sh rl sc) (v : Int32) : T8 (si σ (c 0) 8 v) c s g t sh rl (sc.1, sc.2.1, v) := by
  refine h.obj (Ag.rf.wi _ (Or.inl ⟨0, by decide, rfl⟩)) ?_
  obtain ⟨h1, h2, h3, h4⟩ := h.2.2.2.2.2.2
  exact ⟨by rw [gi_sk (by decide)]; exact h1, by rw [gi_sk (by decide)]; exact h2, by rw [gi_sk (by decide)]; exact h3, gi_ss⟩
theorem Ag.obj {S T : Nat → Prop} (hA : Ag S T σ σ') {v : Int32} {k : Nat} (hS : S (c 0)) : Ag S T σ (si σ' (c 0) k v) := hA.wi _ (Or.inl hS)
theorem T8.told (h : T8 σ c s g t sh rl sc) {i : Nat} {d : RD} (hA : Ag (IL c [1, 3]) (IL c [2, 4]) σ σ') (hL : L8 σ' c rl.1 s) (hR : RS σ' (c 1) (c 2) (setR g.1 i d)) (hH : HS σ' (c 3) (c 4) (fun k => if k = g.2.2 + 1 then setR g.1 i d else g.2.1 k) (g.2.2 + 1)) : T8 σ' c s (tellG g i d) t sh rl sc := by
  obtain ⟨h1, h2, h3, h5, h6, h7, h8⟩ := h
  have hs8 : s = 8 ∨ s = 14 := h1.2.2.2.1.1
  have n : ∀ i, i < 26 → i ∉ [1, 3] → ¬ IL c [1, 3] (c i) := fun i hi h0 => IL.not h1 (by decide) (k8_n hi) h0
  exact ⟨hL, hR, hH, h5.ag h1 hA (n 5 (by decide) (by decide)) (n 6 (by decide) (by decide)), h6.ag h1 hA (fun k hk => n (s + k) (by omega) (by simp; omega)), h7.ag h1 hA (fun i hi26 hi => IL.not h1 (by decide) hi (by simp; omega)), h8.ag h1 hA (n 0 (by decide) (by decide))⟩
theorem X8_refused {v : Int32} {post : Int32 → Hp → Prop} (hL : L8 σ c rl.1 s) (hp : post v (si σ (c 0) 8 v)) : P_X8_refused (c 0) v σ post := ⟨hL.k 0 (by decide) rfl, hp⟩
theorem X8_answered {v : Int32} {post : Int32 → Hp → Prop} (hL : L8 σ c rl.1 s) (hp : post v (si σ (c 0) 8 0)) : P_X8_answered (c 0) v σ post := ⟨hL.k 0 (by decide) rfl, hp⟩
theorem X8_canBe {x : Int32} {post : Int32 → Hp → Prop} (h : T8 σ c s g t sh rl sc) (hp : post (if refd g.1 x then 1 else 0) σ) : P_X8_canBeReferredTo (c 0) x σ post := by
  unfold P_X8_canBeReferredTo
  refine ⟨fun hx => ?_, fun hx => ⟨h.1.k 0 (by decide) rfl, c 1, h.1.r 0 0 1 (by decide), h.1.k 1 (by decide) rfl, X5_standing h.2.1 ?_⟩⟩
  · rwa [if_pos (Or.inl hx)] at hp
  · by_cases hs : stn g.1 x
    · obtain ⟨q, hq, -⟩ := h.2.1.row hs.1
      rw [if_pos hs, hq]
      rw [if_pos (Or.inr hs)] at hp
      exact ⟨fun z => (by cases z), fun _ _ => hp⟩
    · rw [if_neg hs]
      rw [if_neg (fun z => z.elim hx hs)] at hp
      exact ⟨fun _ => hp, fun b z => by cases z⟩
theorem T8_value {x v : Int32} {post : Int32 → Hp → Prop} (h : T8 σ c s g t sh rl sc) (hg : G1ok g) (hp : ∀ σ', T8 σ' c s (oValue g x v).2.1 t sh rl (sc.1, sc.2.1, (oValue g x v).2.2) → Ag (S8 c rl.1) (S8 c rl.1) σ σ' → post (oValue g x v).1 σ') : P_X8_value (c 0) x v σ post := by
  have s0 : S8 c rl.1 (c 0) := ⟨0, k8_n (by decide), rfl⟩
  have hL := h.1
  unfold P_X8_value
  refine X8_isValue ⟨fun hv => ?_, fun hv => ⟨hL.k 0 (by decide) rfl, X8_refused hL ?_⟩⟩
  rotate_left
  · have hn : ¬ isV v := fun z => by rw [if_pos z] at hv; exact absurd hv (by decide)
    have he : oValue g x v = (-1, g, -1) := by unfold oValue; rw [if_pos hn]
    rw [he] at hp
    exact hp _ (h.stat _) (Ag.rf.wi _ (Or.inl s0))
  have hV : isV v := Classical.byContradiction fun z => hv (by rw [if_neg z])
  refine ⟨hL.k 0 (by decide) rfl, c 1, hL.r 0 0 1 (by decide), hL.k 1 (by decide) rfl, X5_standing h.2.1 ?_⟩
  by_cases hs : stn g.1 x
  rotate_left
  · rw [if_neg hs]
    have he : oValue g x v = (-2, g, -2) := by unfold oValue; rw [if_neg (fun z => z hV), if_pos hs]
    rw [he] at hp
    exact ⟨fun _ => ⟨hL.k 0 (by decide) rfl, X8_refused hL (hp _ (h.stat _) (Ag.rf.wi _ (Or.inl s0)))⟩, fun b z => by cases z⟩
  obtain ⟨q, hq, hw⟩ := h.2.1.row hs.1
  rw [if_pos hs, hq]
  refine ⟨fun z => (by cases z), fun b hb => ?_⟩
  cases hb
  refine ⟨hL.k 0 (by decide) rfl, c 3, hL.r 0 1 3 (by decide), hL.k 3 (by decide) rfl, X0_isFull h.2.2.1 ⟨fun hm => ?_, fun hm => ⟨hL.k 0 (by decide) rfl, X8_refused hL ?_⟩⟩⟩
  rotate_left
  · have hm3 : g.2.2 = 300 := Classical.byContradiction fun z => hm (by rw [if_neg z])
    have he : oValue g x v = (-5, g, -5) := by unfold oValue; rw [if_neg (fun z => z hV), if_neg (fun z => z hs), if_pos hm3]
    rw [he] at hp
    exact hp _ (h.stat _) (Ag.rf.wi _ (Or.inl s0))
  have hm3 : g.2.2 ≠ 300 := fun z => by rw [if_pos z] at hm; exact absurd hm (by decide)
  have hm4 : g.2.2 ≤ 300 := h.2.2.1.2.2.2.2.1
  have he : oValue g x v = ((g.1.2 x.toNatClampNeg).2.1, tellG g x.toNatClampNeg ((g.1.2 x.toNatClampNeg).1, v, (g.1.2 x.toNatClampNeg).2.2), 0) := by unfold oValue; rw [if_neg (fun z => z hV), if_neg (fun z => z hs), if_neg hm3]
  rw [he] at hp
  have hi : x.toNatClampNeg < g.1.1 := by rw [icl]; omega
  have hwf := (hg.2.2 g.2.2 (Nat.le_refl _))
  rw [hg.1] at hwf
  have h60 := hwf.1
  refine ⟨hw.1, X4_withValue (S := fun _ => False) (T := fun _ => False) hw (hwf.2 _ hi).1 (fun q2 σ2 hq2 hA2 hw2 => ⟨q2, rfl, ?_⟩)⟩
  have h2 : T8 σ2 c s g t sh rl sc := h.ag hA2 (fun _ _ => ⟨id, id⟩) (fun _ _ => id)
  have hA2' : Ag (S8 c rl.1) (S8 c rl.1) σ σ2 := hA2.mono (fun _ z => z.elim) (fun _ z => z.elim)
  refine ⟨h2.1.k 0 (by decide) rfl, X8_tell h2.1 h2.2.1 h2.2.2.1 hg.1 hw2 (by omega) (by omega) (by omega) (fun σ3 hA3 hL3 hR3 hH3 => ?_)⟩
  have h3 := h2.told hA3 hL3 hR3 hH3
  have hA3' : Ag (S8 c rl.1) (S8 c rl.1) σ2 σ3 := hA3.mono (fun _ z => S8.il (by decide) z) (fun _ z => S8.il (by decide) z)
  have hwo : RW σ3 q x.toNatClampNeg (g.1.2 x.toNatClampNeg) := (hw.ag hA2 id).ag hA3 (IL.n4 h2.1 (by decide) (hw.ag hA2 id).1)
  refine ⟨hwo.1, hL3.k 0 (by decide) rfl, X8_answered hL3 ?_⟩
  rw [hwo.2.2.2.1]
  exact hp _ (h3.stat _) ((hA2'.tr hA3').wi _ (Or.inl s0))
/-- a new row object for row i is told: the end of value, refer, go, row -/
theorem T8.tellOf {q i : Nat} {d : RD} {v : Int32} {σ0 : Hp} {post : Int32 → Hp → Prop} (h : T8 σ c s g t sh rl sc) (hg : G1ok g) (hA0 : Ag (S8 c rl.1) (S8 c rl.1) σ0 σ) (hw : RW σ q i d) (hi : i ≤ g.1.1) (hi60 : i < 60) (hmo : g.2.2 < 300) (hp : ∀ σ', T8 σ' c s (tellG g i d) t sh rl (sc.1, sc.2.1, 0) → Ag (S8 c rl.1) (S8 c rl.1) σ0 σ' → post v σ') :
    P_X8_tell (c 0) q σ (fun σ2 => gk σ2 (c 0) = some (8, 0) ∧ P_X8_answered (c 0) v σ2 (fun r1 σ1 => post r1 σ1)) := by
  refine X8_tell h.1 h.2.1 h.2.2.1 hg.1 hw hi hi60 hmo (fun σ3 hA3 hL3 hR3 hH3 => ?_)
  have h3 := h.told hA3 hL3 hR3 hH3
  have hA3' : Ag (S8 c rl.1) (S8 c rl.1) σ σ3 := hA3.mono (fun _ z => S8.il (by decide) z) (fun _ z => S8.il (by decide) z)
  exact ⟨hL3.k 0 (by decide) rfl, X8_answered hL3 (hp _ (h3.stat _) ((hA0.tr hA3').wi _ (Or.inl ⟨0, k8_n (by decide), rfl⟩)))⟩
theorem T8.full {post : Int32 → Hp → Prop} (h : T8 σ c s g t sh rl sc) (h0 : g.2.2 < 300 → post 0 σ) (h1 : g.2.2 = 300 → post 1 σ) : P_X0_isFull (c 3) σ post := by
  have hm4 : g.2.2 ≤ 300 := h.2.2.1.2.2.2.2.1
  refine X0_isFull h.2.2.1 ?_
  by_cases hm : g.2.2 = 300
  · rw [if_pos hm]; exact h1 hm
  · rw [if_neg hm]; exact h0 (by omega)
theorem T8_go {x : Int32} {post : Int32 → Hp → Prop} (h : T8 σ c s g t sh rl sc) (hg : G1ok g) (hp : ∀ σ', T8 σ' c s (oGo g x).2.1 t sh rl (sc.1, sc.2.1, (oGo g x).2.2) → Ag (S8 c rl.1) (S8 c rl.1) σ σ' → post (oGo g x).1 σ') : P_X8_go (c 0) x σ post := by
  have s0 : S8 c rl.1 (c 0) := ⟨0, k8_n (by decide), rfl⟩
  have hL := h.1
  unfold P_X8_go
  refine ⟨hL.k 0 (by decide) rfl, c 1, hL.r 0 0 1 (by decide), hL.k 1 (by decide) rfl, X5_standing h.2.1 ?_⟩
  by_cases hs : stn g.1 x
  rotate_left
  · rw [if_neg hs]
    have he : oGo g x = (-2, g, -2) := by unfold oGo; rw [if_pos hs]
    rw [he] at hp
    exact ⟨fun _ => ⟨hL.k 0 (by decide) rfl, X8_refused hL (hp _ (h.stat _) (Ag.rf.wi _ (Or.inl s0)))⟩, fun b z => by cases z⟩
  obtain ⟨q, hq, hw⟩ := h.2.1.row hs.1
  rw [if_pos hs, hq]
  refine ⟨fun z => (by cases z), fun b hb => ?_⟩
  cases hb
  have hi : x.toNatClampNeg < g.1.1 := by rw [icl]; omega
  have hwf := (hg.2.2 g.2.2 (Nat.le_refl _))
  rw [hg.1] at hwf
  have h60 := hwf.1
  refine ⟨hL.k 0 (by decide) rfl, c 3, hL.r 0 1 3 (by decide), hL.k 3 (by decide) rfl, h.full (fun hm => ⟨fun _ => ?_, fun z => absurd rfl z⟩) (fun hm => ⟨fun z => absurd z (by decide), fun _ => ⟨hL.k 0 (by decide) rfl, X8_refused hL ?_⟩⟩)⟩
  rotate_left
  · have he : oGo g x = (-5, g, -5) := by unfold oGo; rw [if_neg (fun z => z hs), if_pos hm]
    rw [he] at hp
    exact hp _ (h.stat _) (Ag.rf.wi _ (Or.inl s0))
  have he : oGo g x = (0, tellG g x.toNatClampNeg ((g.1.2 x.toNatClampNeg).1, (g.1.2 x.toNatClampNeg).2.1, (g.1.2 x.toNatClampNeg).2.2.1, (g.1.2 x.toNatClampNeg).2.2.2.1, 0), 0) := by unfold oGo; rw [if_neg (fun z => z hs), if_neg (by omega)]
  rw [he] at hp
  refine ⟨hw.1, X4_gone (S := fun _ => False) (T := fun _ => False) hw (fun q2 σ2 hq2 hA2 hw2 => ⟨q2, rfl, ?_⟩)⟩
  have h2 : T8 σ2 c s g t sh rl sc := h.ag hA2 (fun _ _ => ⟨id, id⟩) (fun _ _ => id)
  exact ⟨h2.1.k 0 (by decide) rfl, h2.tellOf hg (hA2.mono (fun _ z => z.elim) (fun _ z => z.elim)) hw2 (by omega) (by omega) hm hp⟩
theorem T8_refer1 {x r to : Int32} {post : Int32 → Hp → Prop} (h : T8 σ c s g t sh rl sc) (hg : G1ok g) (hr : r = 0 ∨ r = 1) (hp : ∀ σ', T8 σ' c s (oRefer g x r to).2.1 t sh rl (sc.1, sc.2.1, (oRefer g x r to).2.2) → Ag (S8 c rl.1) (S8 c rl.1) σ σ' → post (oRefer g x r to).1 σ') :
    P_X5_standing (c 1) x σ (fun (r2 : Option Nat) (σ2 : Hp) => (r2 = none → gk σ2 (c 0) = some (8, 0) ∧ P_X8_refused (c 0) (-2 : Int32) σ2 (fun (r4 : Int32) (σ4 : Hp) => post r4 σ4)) ∧ (∀ b3 : Nat, r2 = some b3 → gk σ2 (c 0) = some (8, 0) ∧ P_X8_canBeReferredTo (c 0) to σ2 (fun (r5 : Int32) (σ5 : Hp) => (¬ r5 = 0 → gk σ5 (c 0) = some (8, 0) ∧ ∃ b6 : Nat, (gr σ5 (c 0) 1) = some b6 ∧ gk σ5 b6 = some (0, 0) ∧ P_X0_isFull b6 σ5 (fun (r7 : Int32) (σ7 : Hp) => (r7 = 0 → gk σ7 b3 = some (4, 0) ∧ P_X4_withReference b3 r to σ7 (fun (r8 : Option Nat) (σ8 : Hp) => ∃ b9 : Nat, r8 = some b9 ∧ gk σ8 (c 0) = some (8, 0) ∧ P_X8_tell (c 0) b9 σ8 (fun (σ10 : Hp) => gk σ10 (c 0) = some (8, 0) ∧ P_X8_answered (c 0) (0 : Int32) σ10 (fun (r11 : Int32) (σ11 : Hp) => post r11 σ11)))) ∧ (¬ (r7 = 0) → gk σ7 (c 0) = some (8, 0) ∧ P_X8_refused (c 0) (-5 : Int32) σ7 (fun (r12 : Int32) (σ12 : Hp) => post r12 σ12)))) ∧ (r5 = 0 → gk σ5 (c 0) = some (8, 0) ∧ P_X8_refused (c 0) (-2 : Int32) σ5 (fun (r13 : Int32) (σ13 : Hp) => post r13 σ13))))) := by
  have s0 : S8 c rl.1 (c 0) := ⟨0, k8_n (by decide), rfl⟩
  have hL := h.1
  refine X5_standing h.2.1 ?_
  by_cases hs : stn g.1 x
  rotate_left
  · rw [if_neg hs]
    have he : oRefer g x r to = (-2, g, -2) := by unfold oRefer; rw [if_neg (fun z => z hr), if_pos (fun z => hs z.1)]
    rw [he] at hp
    exact ⟨fun _ => ⟨hL.k 0 (by decide) rfl, X8_refused hL (hp _ (h.stat _) (Ag.rf.wi _ (Or.inl s0)))⟩, fun b z => by cases z⟩
  obtain ⟨q, hq, hw⟩ := h.2.1.row hs.1
  rw [if_pos hs, hq]
  refine ⟨fun z => (by cases z), fun b hb => ?_⟩
  cases hb
  have hi : x.toNatClampNeg < g.1.1 := by rw [icl]; omega
  have hwf := (hg.2.2 g.2.2 (Nat.le_refl _))
  rw [hg.1] at hwf
  have h60 := hwf.1
  refine ⟨hL.k 0 (by decide) rfl, X8_canBe h ?_⟩
  by_cases ht : refd g.1 to
  rotate_left
  · rw [if_neg ht]
    have he : oRefer g x r to = (-2, g, -2) := by unfold oRefer; rw [if_neg (fun z => z hr), if_pos (fun z => ht z.2)]
    rw [he] at hp
    exact ⟨fun z => absurd rfl z, fun _ => ⟨hL.k 0 (by decide) rfl, X8_refused hL (hp _ (h.stat _) (Ag.rf.wi _ (Or.inl s0)))⟩⟩
  rw [if_pos ht]
  refine ⟨fun _ => ⟨hL.k 0 (by decide) rfl, c 3, hL.r 0 1 3 (by decide), hL.k 3 (by decide) rfl, h.full (fun hm => ⟨fun _ => ?_, fun z => absurd rfl z⟩) (fun hm => ⟨fun z => absurd z (by decide), fun _ => ⟨hL.k 0 (by decide) rfl, X8_refused hL ?_⟩⟩)⟩, fun z => absurd z (by decide)⟩
  rotate_left
  · have he : oRefer g x r to = (-5, g, -5) := by unfold oRefer; rw [if_neg (fun z => z hr), if_neg (fun z => z ⟨hs, ht⟩), if_pos hm]
    rw [he] at hp
    exact hp _ (h.stat _) (Ag.rf.wi _ (Or.inl s0))
  have he : oRefer g x r to = (0, tellG g x.toNatClampNeg (if r = 0 then ((g.1.2 x.toNatClampNeg).1, (g.1.2 x.toNatClampNeg).2.1, to, (g.1.2 x.toNatClampNeg).2.2.2) else ((g.1.2 x.toNatClampNeg).1, (g.1.2 x.toNatClampNeg).2.1, (g.1.2 x.toNatClampNeg).2.2.1, to, (g.1.2 x.toNatClampNeg).2.2.2.2)), 0) := by unfold oRefer; rw [if_neg (fun z => z hr), if_neg (fun z => z ⟨hs, ht⟩), if_neg (by omega)]
  rw [he] at hp
  refine ⟨hw.1, X4_withReference (S := fun _ => False) (T := fun _ => False) hw (hwf.2 _ hi).1 hr (fun q2 σ2 hq2 hA2 hw2 => ⟨q2, rfl, ?_⟩)⟩
  have h2 : T8 σ2 c s g t sh rl sc := h.ag hA2 (fun _ _ => ⟨id, id⟩) (fun _ _ => id)
  exact ⟨h2.1.k 0 (by decide) rfl, h2.tellOf hg (hA2.mono (fun _ z => z.elim) (fun _ z => z.elim)) hw2 (by omega) (by omega) hm hp⟩
theorem T8_refer {x r to : Int32} {post : Int32 → Hp → Prop} (h : T8 σ c s g t sh rl sc) (hg : G1ok g) (hp : ∀ σ', T8 σ' c s (oRefer g x r to).2.1 t sh rl (sc.1, sc.2.1, (oRefer g x r to).2.2) → Ag (S8 c rl.1) (S8 c rl.1) σ σ' → post (oRefer g x r to).1 σ') : P_X8_refer (c 0) x r to σ post := by
  have s0 : S8 c rl.1 (c 0) := ⟨0, k8_n (by decide), rfl⟩
  have hL := h.1
  unfold P_X8_refer
  refine ⟨fun hr => ?_, fun hr => ⟨fun hr1 => ?_, fun hr1 => ?_⟩⟩
  · exact ⟨hL.k 0 (by decide) rfl, c 1, hL.r 0 0 1 (by decide), hL.k 1 (by decide) rfl, T8_refer1 h hg (Or.inl hr) hp⟩
  · exact ⟨hL.k 0 (by decide) rfl, c 1, hL.r 0 0 1 (by decide), hL.k 1 (by decide) rfl, T8_refer1 h hg (Or.inr hr1) hp⟩
  · have he : oRefer g x r to = (-1, g, -1) := by unfold oRefer; rw [if_pos (fun z => z.elim hr hr1)]
    rw [he] at hp
    exact ⟨hL.k 0 (by decide) rfl, X8_refused hL (hp _ (h.stat _) (Ag.rf.wi _ (Or.inl s0)))⟩
theorem X5_known {post : Int32 → Hp → Prop} (h : T8 σ c s g t sh rl sc) (hp : post (nI g.1.1) σ) : P_X5_known (c 1) σ post := by
  unfold P_X5_known
  rw [h.2.1.2.2.2.1]
  exact ⟨h.2.1.1, hp⟩
theorem T8_row {tb v r0 r1 : Int32} {post : Int32 → Hp → Prop} (h : T8 σ c s g t sh rl sc) (hg : G1ok g) (hp : ∀ σ', T8 σ' c s (oRow g tb v r0 r1).2.1 t sh rl (sc.1, sc.2.1, (oRow g tb v r0 r1).2.2) → Ag (S8 c rl.1) (S8 c rl.1) σ σ' → post (oRow g tb v r0 r1).1 σ') : P_X8_row (c 0) tb v r0 r1 σ post := by
  have s0 : S8 c rl.1 (c 0) := ⟨0, k8_n (by decide), rfl⟩
  have hL := h.1
  have bad1 : ¬ ((0 ≤ tb.toInt ∧ tb.toInt < 4) ∧ isV v) → gk σ (c 0) = some (8, 0) ∧ P_X8_refused (c 0) (-1 : Int32) σ (fun (r1 : Int32) (σ1 : Hp) => post r1 σ1) := fun hn => by
    have he : oRow g tb v r0 r1 = (-1, g, -1) := by unfold oRow; rw [if_pos hn]
    rw [he] at hp
    exact ⟨hL.k 0 (by decide) rfl, X8_refused hL (hp _ (h.stat _) (Ag.rf.wi _ (Or.inl s0)))⟩
  unfold P_X8_row
  simp only [ilt, ile, show (0 : Int32).toInt = 0 by decide, show (4 : Int32).toInt = 4 by decide]
  refine ⟨fun h1 => bad1 (by omega), fun h1 => ⟨fun h2 => bad1 (by omega), fun h2 => X8_isValue ⟨fun hv => ?_, fun hv => bad1 (fun z => by rw [if_pos z.2] at hv; exact absurd hv (by decide))⟩⟩⟩
  have hV : isV v := Classical.byContradiction fun z => hv (by rw [if_neg z])
  have hB : (0 ≤ tb.toInt ∧ tb.toInt < 4) ∧ isV v := ⟨by omega, hV⟩
  have bad2 : ¬ (refd g.1 r0 ∧ refd g.1 r1) → gk σ (c 0) = some (8, 0) ∧ P_X8_refused (c 0) (-2 : Int32) σ (fun (r1 : Int32) (σ1 : Hp) => post r1 σ1) := fun hn => by
    have he : oRow g tb v r0 r1 = (-2, g, -2) := by unfold oRow; rw [if_neg (fun z => z hB), if_pos hn]
    rw [he] at hp
    exact ⟨hL.k 0 (by decide) rfl, X8_refused hL (hp _ (h.stat _) (Ag.rf.wi _ (Or.inl s0)))⟩
  refine ⟨hL.k 0 (by decide) rfl, X8_canBe h ⟨fun hq => bad2 (fun z => by rw [if_pos z.1] at hq; exact absurd hq (by decide)), fun hq => ⟨hL.k 0 (by decide) rfl, X8_canBe h ⟨fun hq1 => ?_, fun hq1 => bad2 (fun z => by rw [if_pos z.2] at hq1; exact absurd hq1 (by decide))⟩⟩⟩⟩
  have hC : refd g.1 r0 ∧ refd g.1 r1 := ⟨Classical.byContradiction fun z => hq (by rw [if_neg z]), Classical.byContradiction fun z => hq1 (by rw [if_neg z])⟩
  have bad5 : (g.1.1 = 60 ∨ g.2.2 = 300) → gk σ (c 0) = some (8, 0) ∧ P_X8_refused (c 0) (-5 : Int32) σ (fun (r1 : Int32) (σ1 : Hp) => post r1 σ1) := fun hn => by
    have he : oRow g tb v r0 r1 = (-5, g, -5) := by unfold oRow; rw [if_neg (fun z => z hB), if_neg (fun z => z hC), if_pos hn]
    rw [he] at hp
    exact ⟨hL.k 0 (by decide) rfl, X8_refused hL (hp _ (h.stat _) (Ag.rf.wi _ (Or.inl s0)))⟩
  refine ⟨hL.k 0 (by decide) rfl, c 1, hL.r 0 0 1 (by decide), hL.k 1 (by decide) rfl, X5_isFull h.2.1 ⟨fun hf => bad5 (Or.inl (Classical.byContradiction fun z => hf (by rw [if_neg z]))), fun hf => ?_⟩⟩
  have hn60 : g.1.1 ≠ 60 := fun z => by rw [if_pos z] at hf; exact absurd hf (by decide)
  have hle : g.1.1 ≤ 60 := h.2.1.2.2.2.2.1
  refine ⟨hL.k 0 (by decide) rfl, c 3, hL.r 0 1 3 (by decide), hL.k 3 (by decide) rfl, h.full (fun hm => ⟨fun _ => ?_, fun z => absurd rfl z⟩) (fun hm => ⟨fun z => absurd z (by decide), fun _ => bad5 (Or.inr hm)⟩)⟩
  have he : oRow g tb v r0 r1 = (nI g.1.1, tellG g g.1.1 (tb, v, r0, r1, 1), 0) := by unfold oRow; rw [if_neg (fun z => z hB), if_neg (fun z => z hC), if_neg (by omega)]
  rw [he] at hp
  refine ⟨hL.k 0 (by decide) rfl, c 1, hL.r 0 0 1 (by decide), hL.k 1 (by decide) rfl, X5_known h (fun q hq => X4_init (S := fun _ => False) (T := fun _ => False) (d := (tb, v, r0, r1, 1)) hq (Or.inr rfl) (fun σ2 hA2 hw2 => ?_))⟩
  have h2 : T8 σ2 c s g t sh rl sc := h.ag hA2 (fun _ _ => ⟨id, id⟩) (fun _ _ => id)
  exact ⟨h2.1.k 0 (by decide) rfl, h2.tellOf hg (hA2.mono (fun _ z => z.elim) (fun _ z => z.elim)) hw2 (by omega) (by omega) hm hp⟩
theorem T8_of {x w : Int32} {post : Int32 → Hp → Prop} (h : T8 σ c s g t sh rl sc) (hp : post (oOf g.1 x w) σ) : P_X8_of (c 0) x w σ post := by
  have hL := h.1
  unfold P_X8_of
  refine ⟨hL.k 0 (by decide) rfl, c 1, hL.r 0 0 1 (by decide), hL.k 1 (by decide) rfl, X5_at h.2.1 ?_⟩
  unfold oOf at hp
  by_cases hx : 0 ≤ x.toInt ∧ x.toInt < g.1.1
  · obtain ⟨q, hq, hw⟩ := h.2.1.row hx
    obtain ⟨w1, w2, w3, w4, w5, w6, w7⟩ := hw
    rw [if_pos hx, hq]
    rw [if_neg (fun z => z hx)] at hp
    refine ⟨fun z => (by cases z), fun b hb => ?_⟩
    cases hb
    rw [w3, w4, w5, w6, w7]
    refine ⟨fun hh => ?_, fun hh => ⟨w1, ?_⟩, fun hh => ⟨w1, ?_⟩, fun hh => ⟨w1, ?_⟩, fun hh => ⟨w1, ?_⟩, fun hh => ⟨w1, fun hz => ?_, fun hz => ?_⟩⟩
    · rwa [if_neg (by omega), if_neg (by omega), if_neg (by omega), if_neg (by omega), if_neg (by omega)] at hp
    · rwa [if_pos hh] at hp
    · rwa [if_neg (by omega), if_pos hh] at hp
    · rwa [if_neg (by omega), if_neg (by omega), if_pos hh] at hp
    · rwa [if_neg (by omega), if_neg (by omega), if_neg (by omega), if_pos hh] at hp
    · rwa [if_neg (by omega), if_neg (by omega), if_neg (by omega), if_neg (by omega), if_pos hh, if_pos hz] at hp
    · rwa [if_neg (by omega), if_neg (by omega), if_neg (by omega), if_neg (by omega), if_pos hh, if_neg hz] at hp
  · rw [if_neg hx]
    rw [if_pos hx] at hp
    exact ⟨fun _ => hp, fun b z => by cases z⟩
end T8X
