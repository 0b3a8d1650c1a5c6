/-! the class's paper -/
def Q8 (σ : Hp) (b m : Nat) (st : PST) : Prop := PP σ b m (cut st.1) (mk1 st.1) ∧ (st.1.length < 600 → BT (gl σ b 2) st.2)
/-- shape at c s, rows at c ia, the paper at c ib in the making: st -/
def N8 (σ0 : Hp) (c : Nat → Nat) (rc s ia ib : Nat) (sh : SHT) (ρ : RM) (σ : Hp) (st : PST) : Prop := L8 σ c rc s ∧ SH8 σ c s sh ∧ RS σ (c ia) (c (ia + 1)) ρ ∧ Q8 σ (c ib) (c (ib + 1)) st ∧ Ag (IL c [ib, ib + 1]) (fun _ => False) σ0 σ ∧ ∀ k, gr σ (c (ia + 1)) k = gr σ0 (c (ia + 1)) k
def IX (ia ib : Nat) : Prop := (ia = 1 ∨ ia = 20) ∧ (ib = 22 ∨ ib = 24)
section SHAPE8
variable {σ : Hp} {c : Nat → Nat} {rc s : Nat} {sh : SHT} {post : Int32 → Hp → Prop}
theorem L8.shk (h : L8 σ c rc s) : gk σ (c s) = Option.some (6, 0) ∧ gr σ (c s) 0 = Option.some (c (s + 1)) ∧ gk σ (c (s + 1)) = Option.some (10, 20) ∧ ∀ k, 1 ≤ k → k < 5 → gr σ (c s) k = Option.some (c (s + 1 + k)) ∧ gk σ (c (s + 1 + k)) = Option.some (10, 100) := by
  rcases h.2.2.2.1.1 with rfl | rfl
  · refine ⟨h.k 8 (by decide) rfl, h.r 8 0 9 (by decide), h.k 9 (by decide) rfl, fun k h1 h2 => ?_⟩
    rcases (show k = 1 ∨ k = 2 ∨ k = 3 ∨ k = 4 by omega) with rfl | rfl | rfl | rfl
    · exact ⟨h.r 8 1 10 (by decide), h.k 10 (by decide) rfl⟩
    · exact ⟨h.r 8 2 11 (by decide), h.k 11 (by decide) rfl⟩
    · exact ⟨h.r 8 3 12 (by decide), h.k 12 (by decide) rfl⟩
    · exact ⟨h.r 8 4 13 (by decide), h.k 13 (by decide) rfl⟩
  · refine ⟨h.k 14 (by decide) rfl, h.r 14 0 15 (by decide), h.k 15 (by decide) rfl, fun k h1 h2 => ?_⟩
    rcases (show k = 1 ∨ k = 2 ∨ k = 3 ∨ k = 4 by omega) with rfl | rfl | rfl | rfl
    · exact ⟨h.r 14 1 16 (by decide), h.k 16 (by decide) rfl⟩
    · exact ⟨h.r 14 2 17 (by decide), h.k 17 (by decide) rfl⟩
    · exact ⟨h.r 14 3 18 (by decide), h.k 18 (by decide) rfl⟩
    · exact ⟨h.r 14 4 19 (by decide), h.k 19 (by decide) rfl⟩
theorem X6_isItem (hL : L8 σ c rc s) (h : SH8 σ c s sh) {i : Nat} (hi : i < sh.2.2.1) (hp : post 1 σ) : P_X6_isItem (c s) (nI i) σ post := by
  have h100 := h.2.2.2.1
  unfold P_X6_isItem
  refine ⟨fun z => absurd z (nI_pos (by omega)), fun _ => ⟨hL.shk.1, fun z => ?_, fun _ => ⟨fun z => ?_, fun _ => hp⟩⟩⟩
  · rw [h.2.1] at z; exact absurd z (nI_ge hi (by omega))
  · rw [ile, nIi (by omega), show (100 : Int32).toInt = 100 by decide] at z; omega
theorem X6_ownerOf (hL : L8 σ c rc s) (h : SH8 σ c s sh) {i : Nat} (hi : i < sh.2.2.1) (hp : post (nI (sh.2.2.2 i).1) σ) : P_X6_ownerOf (c s) (nI i) σ post := by
  have h100 := h.2.2.2.1
  have q := hL.shk.2.2.2 1 (by decide) (by decide)
  refine ⟨hL.shk.1, X6_isItem hL h hi ⟨fun z => absurd z (by decide), fun _ => ⟨hL.shk.1, _, q.1, 100, q.2, vinN (by omega) (by decide), ?_⟩⟩⟩
  rw [clN (by omega), (h.2.2.2.2.2 i hi).1]; exact hp
theorem X6_kindOf (hL : L8 σ c rc s) (h : SH8 σ c s sh) {i : Nat} (hi : i < sh.2.2.1) (hp : post (nI (sh.2.2.2 i).2.1) σ) : P_X6_kindOf (c s) (nI i) σ post := by
  have h100 := h.2.2.2.1
  have q := hL.shk.2.2.2 2 (by decide) (by decide)
  refine ⟨hL.shk.1, X6_isItem hL h hi ⟨fun z => absurd z (by decide), fun _ => ⟨hL.shk.1, _, q.1, 100, q.2, vinN (by omega) (by decide), ?_⟩⟩⟩
  rw [clN (by omega), (h.2.2.2.2.2 i hi).2.1]; exact hp
theorem X6_referenceOf (hL : L8 σ c rc s) (h : SH8 σ c s sh) {i : Nat} (hi : i < sh.2.2.1) (hk : (sh.2.2.2 i).2.1 ≠ 0) (hp : post (nI (sh.2.2.2 i).2.2.1) σ) : P_X6_referenceOf (c s) (nI i) σ post := by
  have h100 := h.2.2.2.1
  have q := hL.shk.2.2.2 3 (by decide) (by decide)
  refine ⟨hL.shk.1, X6_isItem hL h hi ⟨fun z => absurd z (by decide), fun _ => ⟨hL.shk.1, _, q.1, 100, q.2, vinN (by omega) (by decide), ?_⟩⟩⟩
  rw [clN (by omega), ((h.2.2.2.2.2 i hi).2.2 hk).1]; exact hp
theorem X6_partWithin (hL : L8 σ c rc s) (h : SH8 σ c s sh) {i : Nat} (hi : i < sh.2.2.1) (hk : (sh.2.2.2 i).2.1 ≠ 0) (hp : post (nI (sh.2.2.2 i).2.2.2) σ) : P_X6_partWithin (c s) (nI i) σ post := by
  have h100 := h.2.2.2.1
  have q := hL.shk.2.2.2 4 (by decide) (by decide)
  refine ⟨hL.shk.1, X6_isItem hL h hi ⟨fun z => absurd z (by decide), fun _ => ⟨hL.shk.1, _, q.1, 100, q.2, vinN (by omega) (by decide), ?_⟩⟩⟩
  rw [clN (by omega), ((h.2.2.2.2.2 i hi).2.2 hk).2]; exact hp
theorem X6_tableOf (hL : L8 σ c rc s) (h : SH8 σ c s sh) {p : Nat} (hp1 : p < sh.1) (hp : post (sh.2.1 p) σ) : P_X6_tableOf (c s) (nI p) σ post := by
  have h20 := h.2.2.1
  unfold P_X6_tableOf
  refine ⟨fun z => absurd z (nI_pos (by omega)), fun _ => ⟨hL.shk.1, fun z => ?_, fun _ => ⟨_, hL.shk.2.1, 20, hL.shk.2.2.1, fun z => ?_, fun _ => ⟨vinN (by omega) (by decide), ?_⟩⟩⟩⟩
  · rw [h.1] at z; exact absurd z (nI_ge hp1 (by omega))
  · rw [ofn] at z; exact absurd z (nI_ge (by omega) (by omega))
  · rw [clN (by omega), h.2.2.2.2.1 p hp1]; exact hp
theorem X6_table0 (hL : L8 σ c rc s) (h : SH8 σ c s sh) (h0 : sh.1 = 0) (hp : post (-1) σ) : P_X6_tableOf (c s) 0 σ post := by
  unfold P_X6_tableOf
  refine ⟨fun z => absurd z (by decide), fun _ => ⟨hL.shk.1, fun _ => hp, fun z => ?_⟩⟩
  rw [h.1, h0] at z
  exact absurd (by decide) z
end SHAPE8
section PAPER8
variable {σ σ' σ0 : Hp} {c : Nat → Nat} {rc s ia ib : Nat} {sh : SHT} {ρ : RM} {st st' : PST}
theorem N8.wr (hix : IX ia ib) (h : N8 σ0 c rc s ia ib sh ρ σ st) (hA : Ag (IL c [ib, ib + 1]) (fun _ => False) σ σ') (hQ : Q8 σ' (c ib) (c (ib + 1)) st') : N8 σ0 c rc s ia ib sh ρ σ' st' := by
  obtain ⟨h1, h2, h3, h4, h5, h6⟩ := h
  have hs8 : s = 8 ∨ s = 14 := h1.2.2.2.1.1
  have hl : ∀ i ∈ [ib, ib + 1], i < 26 := by
    intro i hi
    have := hix.2
    simp at hi; omega
  have n : ∀ i, i < 22 → ¬ IL c [ib, ib + 1] (c i) := fun i hi => IL.not h1 hl (k8_n (by omega)) (by have := hix.2; simp; omega)
  refine ⟨h1.ag hA (fun i hi hT => hT.elim), h2.ag h1 hA (fun k hk => n (s + k) (by omega)), h3.ag hA (n ia (by have := hix.1; omega)) id id (fun q hq => IL.n4 h1 hl hq), hQ, h5.tr hA, fun k => ?_⟩
  rw [← h6 k]
  exact (hA (c (ia + 1)) (h1.some (k8_n (by have := hix.1; omega)))).2.2 id k
/-- what goes beyond 600 marks changes nothing -/
theorem N8.full (h : N8 σ0 c rc s ia ib sh ρ σ st) (hf : ¬ st.1.length < 600) (hp : st.1 <+: st'.1) : N8 σ0 c rc s ia ib sh ρ σ st' := by
  obtain ⟨h1, h2, h3, ⟨⟨q1, q2, q3, q4, q5, q6⟩, h4⟩, h5⟩ := h
  obtain ⟨e1, e2, -⟩ := pre_cut hp hf
  exact ⟨h1, h2, h3, ⟨⟨q1, q2, q3, by rw [e1]; exact q4, cut_le _, fun k hk => by rw [e1] at hk; rw [e2 k hk]; exact q6 k hk⟩, fun z => by have := hp.length_le; omega⟩, h5⟩
theorem N8.ifFull {post : Int32 → Hp → Prop} (h : N8 σ0 c rc s ia ib sh ρ σ st) (h0 : st.1.length < 600 → post 0 σ) (h1 : ¬ st.1.length < 600 → post 1 σ) : P_X1_isFull (c ib) σ post := by
  obtain ⟨q1, q2, q3, q4, q5, q6⟩ := h.2.2.2.1.1
  unfold P_X1_isFull
  have hc : (nI (cut st.1)).toInt = (cut st.1 : Int) := nIi (by omega)
  rw [q4]
  refine ⟨q1, _, q2, 600, q3, fun z => h0 ?_, fun z => h1 ?_⟩
  · rw [ilt, ofn, hc, nIi (by decide)] at z
    unfold cut at z; split at z <;> omega
  · rw [ilt, ofn, hc, nIi (by decide)] at z
    unfold cut at z; split at z <;> omega
theorem N8.add {v w : Int32} {post : Hp → Prop} (hix : IX ia ib) (h : N8 σ0 c rc s ia ib sh ρ σ st) (hp : ∀ σ', N8 σ0 c rc s ia ib sh ρ σ' (pad st v w) → post σ') : P_X1_add (c ib) v σ post := by
  obtain ⟨⟨q1, q2, q3, q4, q5, q6⟩, q7⟩ := h.2.2.2.1
  have hc : (nI (cut st.1)).toInt = (cut st.1 : Int) := nIi (by omega)
  unfold P_X1_add
  rw [q4]
  refine ⟨q1, fun z => absurd z (nI_pos (by omega)), fun _ => ⟨_, q2, 600, q3, fun z => ?_, fun z => ?_⟩⟩
  · rw [ilt, ofn, hc, nIi (by decide)] at z
    have hl : st.1.length < 600 := by unfold cut at z; split at z <;> omega
    refine ⟨vinN (by omega) (by decide), ?_⟩
    rw [clN (by omega), nI_1]
    obtain ⟨e1, e2, e3, -⟩ := pad_cut st v w hl
    have hne : c (ib + 1) ≠ c ib := h.1.ne (by have := hix.2; omega) (by have := hix.2; omega) (by omega)
    refine hp _ (h.wr hix ((Ag.rf.wi _ (Or.inl ⟨ib + 1, by simp, rfl⟩)).wi _ (Or.inl ⟨ib, by simp, rfl⟩)) ⟨⟨q1, q2, q3, by rw [e1]; exact gi_ss, cut_le _, fun k hk => ?_⟩, fun _ => q7 hl⟩)
    rw [e1] at hk
    rw [e3 k hk, gi_sa hne, gi_si]
    by_cases hkc : k = cut st.1
    · rw [if_pos ⟨rfl, hkc⟩, if_pos hkc]
    · rw [if_neg (fun y => hkc y.2), if_neg hkc]; exact q6 k (by omega)
  · rw [ilt, ofn, hc, nIi (by decide)] at z
    have hl : ¬ st.1.length < 600 := by unfold cut at z; split at z <;> omega
    exact hp _ (h.full hl (pad_pre _ _ _))
theorem N8.row (h : N8 σ0 c rc s ia ib sh ρ σ st) {row q : Nat} (hr : row < ρ.1) (hq : gr σ0 (c (ia + 1)) row = some q) : RW σ q row (ρ.2 row) := by
  have h60 := h.2.2.1.2.2.2.2.1
  obtain ⟨q', e, w⟩ := h.2.2.1.row (x := nI row) ⟨by rw [nIi (by omega)]; omega, by rw [nIi (by omega)]; omega⟩
  rw [clN (by omega)] at e w
  rw [h.2.2.2.2.2, hq] at e
  cases e
  exact w
/-- a row that stands, its object -/
theorem N8.stand {x : Int32} {post : Option Nat → Hp → Prop} (h : N8 σ0 c rc s ia ib sh ρ σ st) (h1 : ∀ q, stn ρ x → x.toNatClampNeg < ρ.1 → gr σ0 (c (ia + 1)) x.toNatClampNeg = some q → RW σ q x.toNatClampNeg (ρ.2 x.toNatClampNeg) → post (some q) σ) (h0 : ¬ stn ρ x → post none σ) : P_X5_standing (c ia) x σ post := by
  refine X5_standing h.2.2.1 ?_
  by_cases hs : stn ρ x
  · obtain ⟨q, e, w⟩ := h.2.2.1.row hs.1
    rw [if_pos hs, e]
    rw [h.2.2.2.2.2] at e
    exact h1 q hs (by rw [icl]; have := hs.1; omega) e w
  · rw [if_neg hs]; exact h0 hs
end PAPER8
