def IL (c : Nat → Nat) (l : List Nat) (b : Nat) : Prop := ∃ i, i ∈ l ∧ b = c i
/-- a new row object -/
theorem X4_init {σ : Hp} {S T : Nat → Prop} {q i : Nat} {d : RD} {post : Hp → Prop} (hq : gk σ q = none) (hh : d.2.2.2.2 = 0 ∨ d.2.2.2.2 = 1) (hp : ∀ σ', Ag S T σ σ' → RW σ' q i d → post σ') : P_X4_init q (nI i) d.1 d.2.1 d.2.2.1 d.2.2.2.1 d.2.2.2.2 (nw σ q 4 0) post := by
  unfold P_X4_init
  refine ⟨gk_new, hh, hp _ ((((((Ag.rf.new hq).wi _ (Or.inr hq)).wi _ (Or.inr hq)).wi _ (Or.inr hq)).wi _ (Or.inr hq)).wi _ (Or.inr hq) |>.wi _ (Or.inr hq)) ⟨gk_new, ?_, ?_, ?_, ?_, ?_, ?_⟩⟩ <;> simp [gi_si]
theorem RW.nw {σ : Hp} {p i q : Nat} {d : RD} (h : RW σ p i d) (hq : gk σ q = none) : RW (nw σ q 4 0) p i d := by
  have hne : p ≠ q := fun z => by
    have h1 := h.1
    rw [z, hq] at h1
    cases h1
  exact h.to (by rw [gk_nw, if_neg hne]) (fun k => by rw [gi_nw, if_neg hne])
theorem X4_withValue {σ : Hp} {S T : Nat → Prop} {p i : Nat} {d : RD} {v : Int32} {post : Option Nat → Hp → Prop} (h : RW σ p i d) (hh : d.2.2.2.2 = 0 ∨ d.2.2.2.2 = 1) (hp : ∀ q σ', gk σ q = none → Ag S T σ σ' → RW σ' q i (d.1, v, d.2.2) → post (some q) σ') : P_X4_withValue p v σ post := by
  unfold P_X4_withValue
  intro q hq
  obtain ⟨h1, h2, h3, h4, h5, h6, h7⟩ := h.nw hq
  rw [h2, h3, h5, h6, h7]
  exact ⟨h1, X4_init (d := (d.1, v, d.2.2)) hq hh (fun σ' hA hR => hp q σ' hq hA hR)⟩
theorem X4_gone {σ : Hp} {S T : Nat → Prop} {p i : Nat} {d : RD} {post : Option Nat → Hp → Prop} (h : RW σ p i d) (hp : ∀ q σ', gk σ q = none → Ag S T σ σ' → RW σ' q i (d.1, d.2.1, d.2.2.1, d.2.2.2.1, 0) → post (some q) σ') : P_X4_gone p σ post := by
  unfold P_X4_gone
  intro q hq
  obtain ⟨h1, h2, h3, h4, h5, h6, h7⟩ := h.nw hq
  rw [h2, h3, h4, h5, h6]
  exact ⟨h1, X4_init (d := (d.1, d.2.1, d.2.2.1, d.2.2.2.1, 0)) hq (Or.inl rfl) (fun σ' hA hR => hp q σ' hq hA hR)⟩
theorem X4_withReference {σ : Hp} {S T : Nat → Prop} {p i : Nat} {d : RD} {r v : Int32} {post : Option Nat → Hp → Prop} (h : RW σ p i d) (hh : d.2.2.2.2 = 0 ∨ d.2.2.2.2 = 1) (hr : r = 0 ∨ r = 1) (hp : ∀ q σ', gk σ q = none → Ag S T σ σ' → RW σ' q i (if r = 0 then (d.1, d.2.1, v, d.2.2.2) else (d.1, d.2.1, d.2.2.1, v, d.2.2.2.2)) → post (some q) σ') : P_X4_withReference p r v σ post := by
  unfold P_X4_withReference
  intro q hq
  obtain ⟨h1, h2, h3, h4, h5, h6, h7⟩ := h.nw hq
  rw [h2, h3, h4, h5, h6, h7]
  refine ⟨h1, fun hn => ⟨fun hn1 => ?_, fun hn1 => ?_⟩, fun hn => ⟨fun hn1 => ?_, fun hn1 => ?_⟩⟩
  · rcases hr with rfl | rfl
    · exact absurd rfl hn
    · exact absurd rfl hn1
  · exact X4_init (d := (d.1, d.2.1, d.2.2.1, v, d.2.2.2.2)) hq hh (fun σ' hA hR => hp q σ' hq hA (by rw [if_neg hn]; exact hR))
  · exact X4_init (d := (d.1, d.2.1, v, d.2.2.2)) hq hh (fun σ' hA hR => hp q σ' hq hA (by rw [if_pos hn]; exact hR))
  · rw [hn] at hn1; exact absurd hn1 (by decide)
theorem X4_referenceBy {σ : Hp} {p i : Nat} {d : RD} {r : Int32} {post : Int32 → Hp → Prop} (h : RW σ p i d) (hp : post (if r = 0 then d.2.2.1 else d.2.2.2.1) σ) : P_X4_referenceBy p r σ post := by
  unfold P_X4_referenceBy
  obtain ⟨h1, h2, h3, h4, h5, h6, h7⟩ := h
  rw [h5, h6]
  refine ⟨fun hn => ⟨h1, ?_⟩, fun hn => ⟨h1, ?_⟩⟩
  · rwa [if_neg hn] at hp
  · rwa [if_pos hn] at hp
theorem X8_tell {σ : Hp} {c : Nat → Nat} {rc s q i : Nat} {g : G1} {d : RD} {post : Hp → Prop} (hL : L8 σ c rc s) (hR : RS σ (c 1) (c 2) g.1) (hH : HS σ (c 3) (c 4) g.2.1 g.2.2) (hg : g.2.1 g.2.2 = g.1) (hw : RW σ q i d) (hi : i ≤ g.1.1) (hi60 : i < 60) (hmo : g.2.2 < 300)
    (hp : ∀ σ', Ag (IL c [1, 3]) (IL c [2, 4]) σ σ' → L8 σ' c rc s → RS σ' (c 1) (c 2) (setR g.1 i d) → HS σ' (c 3) (c 4) (fun k => if k = g.2.2 + 1 then setR g.1 i d else g.2.1 k) (g.2.2 + 1) → post σ') : P_X8_tell (c 0) q σ post := by
  unfold P_X8_tell
  refine ⟨hL.k 0 (by decide) rfl, c 1, hL.r 0 0 1 (by decide), hL.k 1 (by decide) rfl, X5_put hR hw hi60 ?_⟩
  generalize hσ1 : si (sr σ (c 2) i (some q)) (c 1) 1 (nI (setR g.1 i d).1) = σ1
  have hR1 : RS σ1 (c 1) (c 2) (setR g.1 i d) := by rw [← hσ1]; exact hR.put hw hi hi60
  have hA1 : Ag (IL c [1, 3]) (IL c [2, 4]) σ σ1 := by rw [← hσ1]; exact (Ag.rf.wr _ (Or.inl ⟨2, by decide, rfl⟩)).wi _ (Or.inl ⟨1, by decide, rfl⟩)
  have hA1' : Ag (IL c [1]) (IL c [2]) σ σ1 := by rw [← hσ1]; exact (Ag.rf.wr _ (Or.inl ⟨2, by decide, rfl⟩)).wi _ (Or.inl ⟨1, by decide, rfl⟩)
  have hT : ∀ {l : List Nat}, (∀ j ∈ l, j = 2 ∨ j = 4 ∨ j = 21) → ∀ i, k8 rc i ≠ none → IL c l (c i) → i = 2 ∨ i = 4 ∨ i = 21 := fun {l} hl i hi ⟨j, hj, e⟩ => by
    have hj2 := hl j hj
    have := hL.2.1 i j hi (k8_n (by omega)) e
    rw [this]; exact hj2
  have hL1 : L8 σ1 c rc s := hL.ag hA1 (hT (by decide))
  have n4 : ∀ {l : List Nat}, (∀ j ∈ l, j < 26) → ∀ q, gk σ q = some (4, 0) → ¬ IL c l q := fun {l} hl q hq ⟨j, hj, e⟩ => hL.n4 (k8_n (hl j hj)) hq e
  have hH1 : HS σ1 (c 3) (c 4) g.2.1 g.2.2 := hH.ag hA1' (fun ⟨j, hj, e⟩ => hL.ne (i := 3) (j := j) (by decide) (by simp at hj; omega) (by simp at hj; omega) e) (fun ⟨j, hj, e⟩ => hL.ne (i := 3) (j := j) (by decide) (by simp at hj; omega) (by simp at hj; omega) e) (fun ⟨j, hj, e⟩ => hL.ne (i := 4) (j := j) (by decide) (by simp at hj; omega) (by simp at hj; omega) e) (n4 (by decide))
  have hw1 : RW σ1 q i d := hw.ag hA1' (n4 (by decide) q hw.1)
  refine ⟨hL1.k 0 (by decide) rfl, c 3, hL1.r 0 1 3 (by decide), hL1.k 3 (by decide) rfl, X0_add hH1 hw1 hmo ?_⟩
  have hA2 : Ag (IL c [3]) (IL c [4]) σ1 (si (sr σ1 (c 4) g.2.2 (some q)) (c 3) 1 (nI (g.2.2 + 1))) := (Ag.rf.wr _ (Or.inl ⟨4, by decide, rfl⟩)).wi _ (Or.inl ⟨3, by decide, rfl⟩)
  have hA3 : Ag (IL c [1, 3]) (IL c [2, 4]) σ1 (si (sr σ1 (c 4) g.2.2 (some q)) (c 3) 1 (nI (g.2.2 + 1))) := hA2.mono (fun b ⟨j, hj, e⟩ => ⟨j, by simp at hj; simp [hj], e⟩) (fun b ⟨j, hj, e⟩ => ⟨j, by simp at hj; simp [hj], e⟩)
  have n41 : ∀ q, gk σ1 q = some (4, 0) → ¬ IL c [3] q := fun q hq ⟨j, hj, e⟩ => hL1.n4 (k8_n (by simp at hj; omega)) hq e
  have hR2 := hR1.ag hA2 (fun ⟨j, hj, e⟩ => hL.ne (i := 1) (j := j) (by decide) (by simp at hj; omega) (by simp at hj; omega) e) (fun ⟨j, hj, e⟩ => hL.ne (i := 1) (j := j) (by decide) (by simp at hj; omega) (by simp at hj; omega) e) (fun ⟨j, hj, e⟩ => hL.ne (i := 2) (j := j) (by decide) (by simp at hj; omega) (by simp at hj; omega) e) n41
  have hH2 := hH1.add hw1 hmo (by rw [hg]; exact hi) hi60
  rw [hg] at hH2
  exact hp _ (hA1.tr hA3) (hL1.ag hA3 (hT (by decide))) hR2 hH2
