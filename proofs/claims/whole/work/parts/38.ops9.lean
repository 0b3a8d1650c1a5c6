/-- a cell of the reference's -/
def W9 (a : Nat) (e : Nat → Nat) (b _k : Nat) : Prop := b = a ∨ ∃ j, k9 j ≠ none ∧ b = e j
theorem nI_cl {x : Int32} (h : 0 ≤ x.toInt) : nI x.toNatClampNeg = x := by
  have := irng x
  rw [ieq, nIi (by rw [icl]; omega), icl]
  omega
theorem apD_0 (A B C D : Int32) (d : RD) : apD 0 A B C D d = (A, B, C, D, 1) := by unfold apD; rw [if_pos (by decide)]
theorem apD_1 (A B C D : Int32) (d : RD) : apD 1 A B C D d = (d.1, A, d.2.2) := by unfold apD; rw [if_neg (by decide), if_pos (by decide)]
theorem apD_2 (A B C D : Int32) (d : RD) : apD 2 A B C D d = if A = 0 then (d.1, d.2.1, B, d.2.2.2) else (d.1, d.2.1, d.2.2.1, B, d.2.2.2.2) := by unfold apD; rw [if_neg (by decide), if_neg (by decide), if_pos (by decide)]
theorem apD_3 (A B C D : Int32) (d : RD) : apD 3 A B C D d = (d.1, d.2.1, d.2.2.1, d.2.2.2.1, 0) := by unfold apD; rw [if_neg (by decide), if_neg (by decide), if_neg (by decide)]
section T9X
variable {σ σ' σ0 : Hp} {a : Nat} {e : Nat → Nat} {g : G1} {t : G2} {sh : SHT} {rl : RLT} {sc : SCT}
/-- all but scratch stays -/
theorem T9.scr (h : T9 σ a e g t sh rl sc) (hs : SK σ σ') (hc : ∀ k ∈ [2, 9, 14, 33, 48], gi σ' a k = gi σ a k) (ha : ∀ j ∈ [3, 4, 5, 6, 7, 8, 10, 11, 12, 13, 15, 16, 17, 18, 19, 20, 32, 49, 50, 51, 52], ∀ k, gi σ' (e j) k = gi σ (e j) k) {sc' : SCT} (h7 : SC9 σ' a sc') : T9 σ' a e g t sh rl sc' := by
  obtain ⟨h1, h2, h3, h4, h5, h6, -⟩ := h
  refine ⟨h1.sk hs, ?_, ?_, ?_, ?_, ?_, h7⟩
  · unfold R9 at *
    rw [hc 9 (by decide)]
    simpa only [ha 10 (by decide), ha 11 (by decide), ha 12 (by decide), ha 13 (by decide)] using h2
  · unfold H9 at *
    rw [hc 2 (by decide)]
    simpa only [ha 3 (by decide), ha 4 (by decide), ha 5 (by decide), ha 6 (by decide), ha 7 (by decide), ha 8 (by decide)] using h3
  · unfold TP9 at *
    rw [hc 33 (by decide)]
    simpa only [ha 32 (by decide)] using h4
  · unfold SH9 at *
    rw [hc 14 (by decide)]
    simpa only [ha 15 (by decide), ha 16 (by decide), ha 17 (by decide), ha 18 (by decide), ha 19 (by decide), ha 20 (by decide)] using h5
  · unfold RD9 at *
    rw [hc 48 (by decide)]
    simpa only [ha 49 (by decide), ha 50 (by decide), ha 51 (by decide), ha 52 (by decide)] using h6
theorem k9_l : ∀ j ∈ [3, 4, 5, 6, 7, 8, 10, 11, 12, 13, 15, 16, 17, 18, 19, 20, 32, 49, 50, 51, 52], k9 j ≠ none := by decide +kernel
theorem T9.thr (h : T9 σ a e g t sh rl sc) (v : Int32) : T9 (si σ a 0 v) a e g t sh rl sc := by
  refine h.scr (SK.wi _ _ _) (fun k hk => gi_sk (by rintro rfl; simp at hk)) (fun j hj k => gi_sa (h.1.na j (k9_l j hj))) ?_
  obtain ⟨h1, h2, h3⟩ := h.2.2.2.2.2.2
  exact ⟨by rw [gi_sk (by decide)]; exact h1, by rw [gi_sk (by decide)]; exact h2, by rw [gi_sk (by decide)]; exact h3⟩
theorem T9.stat (h : T9 σ a e g t sh rl sc) (v : Int32) : T9 (si σ a 1 v) a e g t sh rl (sc.1, sc.2.1, v) := by
  refine h.scr (SK.wi _ _ _) (fun k hk => gi_sk (by rintro rfl; simp at hk)) (fun j hj k => gi_sa (h.1.na j (k9_l j hj))) ?_
  obtain ⟨h1, h2, h3⟩ := h.2.2.2.2.2.2
  exact ⟨by rw [gi_sk (by decide)]; exact h1, by rw [gi_sk (by decide)]; exact h2, gi_ss⟩
theorem Fr.ob (hf : Fr (W9 a e) σ σ') (k : Nat) (v : Int32) : Fr (W9 a e) σ (si σ' a k v) := hf.wi v (Or.inl rfl)
theorem T9_told {v : Int32} {post : Int32 → Hp → Prop} (h : T9 σ a e g t sh rl sc) (hs : SK σ0 σ) (hf : Fr (W9 a e) σ0 σ) (hp : ∀ σ', T9 σ' a e g t sh rl (sc.1, sc.2.1, if 0 ≤ v.toInt then 0 else v) → SK σ0 σ' → Fr (W9 a e) σ0 σ' → post v σ') : P_X9_told a v σ (fun r1 σ1 => post r1 σ1) :=
  X9_told h.1.1 (hp _ (h.stat _) (hs.tr (SK.wi _ _ _)) (hf.ob _ _))
theorem T9.isRow {x : Int32} {post : Int32 → Hp → Prop} (h : T9 σ a e g t sh rl sc) (h1 : stn g.1 x → post 1 σ) (h0 : ¬ stn g.1 x → post 0 σ) : P_X9_isRow a x σ post := by
  refine X9_isRow h.1 h.2.1 ?_
  by_cases hs : stn g.1 x
  · rw [if_pos hs]; exact h1 hs
  · rw [if_neg hs]; exact h0 hs
theorem T9.tell {s A B C D : Int32} {i : Nat} {post : Hp → Prop} (h : T9 σ a e g t sh rl sc) (hg : G1ok g) (hmo : g.2.2 < 300) (hi60 : i < 60) (h0 : s.toInt = 0 → i = g.1.1) (h1 : s.toInt ≠ 0 → i < g.1.1) (h2 : s.toInt = 2 → A = 0 ∨ A = 1)
    (hp : ∀ σ', T9 σ' a e (tellG g i (apD s A B C D (g.1.2 i))) t sh rl sc → SK σ σ' → Fr (W9 a e) σ σ' → post σ') : P_X9_tell a s (nI i) A B C D σ post := by
  refine X9_tell h.1 h.2.1 h.2.2.1 hmo hg.1 hi60 h0 h1 h2 (fun σ' hs hf hR hH => ?_)
  have hk : ∀ j, (3 ≤ j ∧ j ≤ 8 ∨ 10 ≤ j ∧ j ≤ 13) → k9 j ≠ none := fun j hj => by
    rcases (show j = 3 ∨ j = 4 ∨ j = 5 ∨ j = 6 ∨ j = 7 ∨ j = 8 ∨ j = 10 ∨ j = 11 ∨ j = 12 ∨ j = 13 by omega) with rfl | rfl | rfl | rfl | rfl | rfl | rfl | rfl | rfl | rfl <;> decide
  have hL := h.1
  have ha : ∀ k, k ≠ 2 → k ≠ 9 → gi σ' a k = gi σ a k := fun k k2 k9' => (hf a k (fun z => by
    rcases z with ⟨-, z | z⟩ | ⟨j, hj, z⟩
    · exact k2 z
    · exact k9' z
    · exact hL.na j (hk j hj) z.symm)).1
  have he : ∀ j, k9 j ≠ none → ¬ (3 ≤ j ∧ j ≤ 8 ∨ 10 ≤ j ∧ j ≤ 13) → ∀ k, gi σ' (e j) k = gi σ (e j) k := fun j hj hn k => (hf (e j) k (fun z => by
    rcases z with ⟨z, -⟩ | ⟨j', hj', z⟩
    · exact hL.na j hj z
    · exact hn (by rw [hL.2.2 j j' hj (hk j' hj') z]; exact hj'))).1
  obtain ⟨h1, -, -, h4, h5, h6, h7⟩ := h
  refine hp σ' ⟨h1.sk hs, hR, hH, ?_, ?_, ?_, ?_⟩ hs (hf.mono (fun b k w => ?_))
  · unfold TP9 at *
    rw [ha 33 (by decide) (by decide)]
    simpa only [he 32 (by decide) (by decide)] using h4
  · unfold SH9 at *
    rw [ha 14 (by decide) (by decide)]
    simpa only [he 15 (by decide) (by decide), he 16 (by decide) (by decide), he 17 (by decide) (by decide), he 18 (by decide) (by decide), he 19 (by decide) (by decide), he 20 (by decide) (by decide)] using h5
  · unfold RD9 at *
    rw [ha 48 (by decide) (by decide)]
    simpa only [he 49 (by decide) (by decide), he 50 (by decide) (by decide), he 51 (by decide) (by decide), he 52 (by decide) (by decide)] using h6
  · unfold SC9 at *
    rw [ha 53 (by decide) (by decide), ha 38 (by decide) (by decide), ha 1 (by decide) (by decide)]
    exact h7
  · rcases w with ⟨w, -⟩ | ⟨j, hj, w⟩
    · exact Or.inl w
    · exact Or.inr ⟨j, hk j hj, w⟩
theorem T9.mo {P Q : Prop} (h : T9 σ a e g t sh rl sc) (h1 : g.2.2 < 300 → P) (h2 : g.2.2 = 300 → Q) : (¬ gi σ a 2 = (300 : Int32) → P) ∧ (gi σ a 2 = (300 : Int32) → Q) := by
  have hle : g.2.2 ≤ 300 := h.2.2.1.2.1
  rw [h.2.2.1.1, ieq, nIi (by omega), show (300 : Int32).toInt = 300 by decide]
  exact ⟨fun z => h1 (by omega), fun z => h2 (by omega)⟩
/-- a row is told, and the answer is v -/
theorem T9.tellOf {s A B C D v x : Int32} {i : Nat} {post : Int32 → Hp → Prop} (h : T9 σ a e g t sh rl sc) (hg : G1ok g) (hs0 : SK σ0 σ) (hf0 : Fr (W9 a e) σ0 σ) (hmo : g.2.2 < 300) (hx : x = nI i) (hi60 : i < 60) (h0 : s.toInt = 0 → i = g.1.1) (h1 : s.toInt ≠ 0 → i < g.1.1) (h2 : s.toInt = 2 → A = 0 ∨ A = 1)
    (hp : ∀ σ', T9 σ' a e (tellG g i (apD s A B C D (g.1.2 i))) t sh rl (sc.1, sc.2.1, if 0 ≤ v.toInt then 0 else v) → SK σ0 σ' → Fr (W9 a e) σ0 σ' → post v σ') : P_X9_tell a s x A B C D σ (fun σ1 => gk σ1 a = some (9, 0) ∧ P_X9_told a v σ1 (fun r2 σ2 => post r2 σ2)) := by
  subst hx
  exact h.tell hg hmo hi60 h0 h1 h2 (fun σ1 hT hs hf => ⟨hT.1.1, T9_told hT (hs0.tr hs) (hf0.tr hf) hp⟩)
theorem T9_value {x v : Int32} {post : Int32 → Hp → Prop} (h : T9 σ a e g t sh rl sc) (hg : G1ok g) (hp : ∀ σ', T9 σ' a e (oValue g x v).2.1 t sh rl (sc.1, sc.2.1, (oValue g x v).2.2) → SK σ σ' → Fr (W9 a e) σ σ' → post (oValue g x v).1 σ') : P_X9_value a x v σ post := by
  unfold P_X9_value
  have hT := h.thr 0
  have hs : SK σ (si σ a 0 0) := SK.wi _ _ _
  have hf : Fr (W9 a e) σ (si σ a 0 0) := Fr.rf.ob _ _
  generalize si σ a 0 0 = σ1 at hT hs hf ⊢
  refine ⟨h.1.1, X9_isValue ⟨fun hv => ⟨hT.1.1, ?_⟩, fun hv => ⟨hT.1.1, ?_⟩⟩⟩
  rotate_left
  · have hn : ¬ isV v := fun z => by rw [if_pos z] at hv; exact absurd hv (by decide)
    have he : oValue g x v = (-1, g, -1) := by unfold oValue; rw [if_pos hn]
    rw [he] at hp
    exact T9_told hT hs hf hp
  have hV : isV v := Classical.byContradiction fun z => hv (by rw [if_neg z])
  refine hT.isRow (fun hst => ⟨fun _ => ⟨hT.1.1, ?_⟩, fun z => absurd z (by decide)⟩) (fun hst => ⟨fun z => absurd rfl z, fun _ => ⟨hT.1.1, ?_⟩⟩)
  rotate_left
  · have he : oValue g x v = (-2, g, -2) := by unfold oValue; rw [if_neg (fun z => z hV), if_pos hst]
    rw [he] at hp
    exact T9_told hT hs hf hp
  have hi : x.toNatClampNeg < g.1.1 := by rw [icl]; omega
  have h60 : g.1.1 ≤ 60 := hT.2.1.2.1
  refine hT.mo (fun hm => ?_) (fun hm => ?_)
  rotate_left
  · have he : oValue g x v = (-5, g, -5) := by unfold oValue; rw [if_neg (fun z => z hV), if_neg (fun z => z hst), if_pos hm]
    rw [he] at hp
    exact T9_told hT hs hf hp
  have he : oValue g x v = ((g.1.2 x.toNatClampNeg).2.1, tellG g x.toNatClampNeg ((g.1.2 x.toNatClampNeg).1, v, (g.1.2 x.toNatClampNeg).2.2), 0) := by unfold oValue; rw [if_neg (fun z => z hV), if_neg (fun z => z hst), if_neg (by omega)]
  rw [he] at hp
  refine ⟨e 11, hT.1.r 11 rfl, 60, hT.1.k 11 rfl, vin hst.1.1 (by omega), ?_⟩
  have hx := nI_cl hst.1.1
  rw [(hT.2.1.2.2 _ hi).2.1]
  have := hT.tell (s := 1) (A := v) (B := 0) (C := 0) (D := 0) (i := x.toNatClampNeg) (post := fun σ5 => gk σ5 a = some (9, 0) ∧ post (g.1.2 x.toNatClampNeg).2.1 (si σ5 a 1 0)) hg hm (by omega) (fun z => absurd z (by decide)) (fun _ => hi) (fun z => absurd z (by decide)) (fun σ5 hT5 hs5 hf5 => by
    rw [apD_1] at hT5
    exact ⟨hT5.1.1, hp _ (hT5.stat _) ((hs.tr hs5).tr (SK.wi _ _ _)) ((hf.tr hf5).ob _ _)⟩)
  rwa [hx] at this
theorem T9_go {x : Int32} {post : Int32 → Hp → Prop} (h : T9 σ a e g t sh rl sc) (hg : G1ok g) (hp : ∀ σ', T9 σ' a e (oGo g x).2.1 t sh rl (sc.1, sc.2.1, (oGo g x).2.2) → SK σ σ' → Fr (W9 a e) σ σ' → post (oGo g x).1 σ') : P_X9_go a x σ post := by
  unfold P_X9_go
  have hT := h.thr 0
  have hs : SK σ (si σ a 0 0) := SK.wi _ _ _
  have hf : Fr (W9 a e) σ (si σ a 0 0) := Fr.rf.ob _ _
  generalize si σ a 0 0 = σ1 at hT hs hf ⊢
  refine ⟨h.1.1, hT.isRow (fun hst => ⟨fun _ => ⟨hT.1.1, ?_⟩, fun z => absurd z (by decide)⟩) (fun hst => ⟨fun z => absurd rfl z, fun _ => ⟨hT.1.1, ?_⟩⟩)⟩
  rotate_left
  · have he : oGo g x = (-2, g, -2) := by unfold oGo; rw [if_pos hst]
    rw [he] at hp
    exact T9_told hT hs hf hp
  have hi : x.toNatClampNeg < g.1.1 := by rw [icl]; omega
  have h60 : g.1.1 ≤ 60 := hT.2.1.2.1
  refine hT.mo (fun hm => ?_) (fun hm => ?_)
  rotate_left
  · have he : oGo g x = (-5, g, -5) := by unfold oGo; rw [if_neg (fun z => z hst), if_pos hm]
    rw [he] at hp
    exact T9_told hT hs hf hp
  have he : oGo g x = (0, tellG g x.toNatClampNeg ((g.1.2 x.toNatClampNeg).1, (g.1.2 x.toNatClampNeg).2.1, (g.1.2 x.toNatClampNeg).2.2.1, (g.1.2 x.toNatClampNeg).2.2.2.1, 0), 0) := by unfold oGo; rw [if_neg (fun z => z hst), if_neg (by omega)]
  rw [he] at hp
  exact hT.tellOf hg hs hf hm (nI_cl hst.1.1).symm (by omega) (fun z => absurd z (by decide)) (fun _ => hi) (fun z => absurd z (by decide)) (fun σ' hT' => hp σ' (by rw [apD_3] at hT'; exact hT'))
theorem T9_refer {x r to : Int32} {post : Int32 → Hp → Prop} (h : T9 σ a e g t sh rl sc) (hg : G1ok g) (hp : ∀ σ', T9 σ' a e (oRefer g x r to).2.1 t sh rl (sc.1, sc.2.1, (oRefer g x r to).2.2) → SK σ σ' → Fr (W9 a e) σ σ' → post (oRefer g x r to).1 σ') : P_X9_refer a x r to σ post := by
  unfold P_X9_refer
  have hT := h.thr 0
  have hs : SK σ (si σ a 0 0) := SK.wi _ _ _
  have hf : Fr (W9 a e) σ (si σ a 0 0) := Fr.rf.ob _ _
  generalize si σ a 0 0 = σ1 at hT hs hf ⊢
  refine ⟨h.1.1, X9_in ?_⟩
  rw [i64of, show (0 : Int64).toInt = 0 by decide, show (1 : Int64).toInt = 1 by decide]
  by_cases hr : r = 0 ∨ r = 1
  rotate_left
  · have hn : ¬ (0 ≤ r.toInt ∧ r.toInt ≤ 1) := fun z => hr (by
      rw [ieq, ieq, show (0 : Int32).toInt = 0 by decide, show (1 : Int32).toInt = 1 by decide]; omega)
    rw [if_neg hn]
    have he : oRefer g x r to = (-1, g, -1) := by unfold oRefer; rw [if_pos hr]
    rw [he] at hp
    exact ⟨fun z => absurd rfl z, fun _ => ⟨hT.1.1, T9_told hT hs hf hp⟩⟩
  rw [if_pos (by rcases hr with rfl | rfl <;> decide)]
  have bad2 : ¬ (stn g.1 x ∧ refd g.1 to) → P_X9_told a (-2) σ1 (fun r3 σ3 => post r3 σ3) := fun hn => by
    have he : oRefer g x r to = (-2, g, -2) := by unfold oRefer; rw [if_neg (fun z => z hr), if_pos hn]
    rw [he] at hp
    exact T9_told hT hs hf hp
  refine ⟨fun _ => ⟨hT.1.1, hT.isRow (fun hst => ⟨fun z => absurd z (by decide), fun _ => ?_⟩) (fun hst => ⟨fun _ => ⟨hT.1.1, bad2 (fun z => hst z.1)⟩, fun z => absurd rfl z⟩)⟩, fun z => absurd z (by decide)⟩
  have hi : x.toNatClampNeg < g.1.1 := by rw [icl]; omega
  have h60 : g.1.1 ≤ 60 := hT.2.1.2.1
  have good : refd g.1 to → (¬ gi σ1 a 2 = (300 : Int32) → P_X9_tell a 2 x r to 0 0 σ1 (fun σ4 => gk σ4 a = some (9, 0) ∧ P_X9_told a 0 σ4 (fun r5 σ5 => post r5 σ5))) ∧ (gi σ1 a 2 = (300 : Int32) → P_X9_told a (-5) σ1 (fun r6 σ6 => post r6 σ6)) := fun ht => by
    refine hT.mo (fun hm => ?_) (fun hm => ?_)
    · have he : oRefer g x r to = (0, tellG g x.toNatClampNeg (if r = 0 then ((g.1.2 x.toNatClampNeg).1, (g.1.2 x.toNatClampNeg).2.1, to, (g.1.2 x.toNatClampNeg).2.2.2) else ((g.1.2 x.toNatClampNeg).1, (g.1.2 x.toNatClampNeg).2.1, (g.1.2 x.toNatClampNeg).2.2.1, to, (g.1.2 x.toNatClampNeg).2.2.2.2)), 0) := by unfold oRefer; rw [if_neg (fun z => z hr), if_neg (fun z => z ⟨hst, ht⟩), if_neg (by omega)]
      rw [he] at hp
      exact hT.tellOf hg hs hf hm (nI_cl hst.1.1).symm (by omega) (fun z => absurd z (by decide)) (fun _ => hi) (fun _ => hr) (fun σ' hT' => hp σ' (by rw [apD_2] at hT'; exact hT'))
    · have he : oRefer g x r to = (-5, g, -5) := by unfold oRefer; rw [if_neg (fun z => z hr), if_neg (fun z => z ⟨hst, ht⟩), if_pos hm]
      rw [he] at hp
      exact T9_told hT hs hf hp
  refine ⟨fun ht => ⟨hT.1.1, good (Or.inl ht)⟩, fun ht => ⟨hT.1.1, hT.isRow (fun ht2 => ⟨fun _ => ⟨hT.1.1, good (Or.inr ht2)⟩, fun z => absurd z (by decide)⟩) (fun ht2 => ⟨fun z => absurd rfl z, fun _ => ⟨hT.1.1, bad2 (fun z => z.2.elim ht ht2)⟩⟩)⟩⟩
end T9X
