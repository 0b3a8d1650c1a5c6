/-- the cells that tell writes -/
def WT (a : Nat) (e : Nat → Nat) (b k : Nat) : Prop := (b = a ∧ (k = 2 ∨ k = 9)) ∨ ∃ j, (3 ≤ j ∧ j ≤ 8 ∨ 10 ≤ j ∧ j ≤ 13) ∧ b = e j
theorem X9_tell {σ : Hp} {a : Nat} {e : Nat → Nat} {g : G1} {post : Hp → Prop} {s A B C D : Int32} {i : Nat} (hL : L9 σ a e) (hR : R9 σ a e g.1) (hH : H9 σ a e g.2.1 g.2.2) (hmo : g.2.2 < 300) (hg : g.2.1 g.2.2 = g.1) (hi60 : i < 60) (h0 : s.toInt = 0 → i = g.1.1) (h1 : s.toInt ≠ 0 → i < g.1.1) (h2 : s.toInt = 2 → A = 0 ∨ A = 1)
    (hp : ∀ σ', SK σ σ' → Fr (WT a e) σ σ' → R9 σ' a e (setR g.1 i (apD s A B C D (g.1.2 i))) → H9 σ' a e (fun k => if k = g.2.2 + 1 then setR g.1 i (apD s A B C D (g.1.2 i)) else g.2.1 k) (g.2.2 + 1) → post σ') : P_X9_tell a s (nI i) A B C D σ post := by
  obtain ⟨m1, m2, m3⟩ := hH
  obtain ⟨r1, r2, r3⟩ := hR
  generalize hmm : g.2.2 = mo at *
  have hk : mo < 2147483648 := by omega
  have q1 : nI mo + (1 : Int32) = nI (mo + 1) := nI_1 mo
  have q2 : nI (mo + 1) - (1 : Int32) = nI mo := nI_pred mo
  have na : ∀ j, k9 j ≠ none → e j ≠ a := hL.na
  have ne : ∀ i j, k9 i ≠ none → k9 j ≠ none → i ≠ j → e i ≠ e j := fun i j hi hj hij => hL.ne hi hj hij
  unfold P_X9_tell
  rw [m1]
  refine ⟨hL.1, e 3, hL.r 3 rfl, 300, hL.k 3 rfl, vinN hmo (by decide), e 4, hL.r 4 rfl, 300, hL.k 4 rfl, vinN hmo (by decide), e 5, hL.r 5 rfl, 300, hL.k 5 rfl, vinN hmo (by decide), e 6, hL.r 6 rfl, 300, hL.k 6 rfl, vinN hmo (by decide), e 7, hL.r 7 rfl, 300, hL.k 7 rfl, vinN hmo (by decide), e 8, hL.r 8 rfl, 300, hL.k 8 rfl, vinN hmo (by decide), ?_⟩
  rw [q1, q2, clN hk]
  generalize hσ0 : si (si (si (si (si (si (si σ (e 3) mo s) (e 4) mo (nI i)) (e 5) mo A) (e 6) mo B) (e 7) mo C) (e 8) mo D) a 2 (nI (mo + 1)) = σ0
  have sk0 : SK σ σ0 := by rw [← hσ0]; exact ⟨fun _ => rfl, fun _ _ => rfl⟩
  have g34 := ne 3 4 (by decide) (by decide) (by decide)
  have g35 := ne 3 5 (by decide) (by decide) (by decide)
  have g36 := ne 3 6 (by decide) (by decide) (by decide)
  have g37 := ne 3 7 (by decide) (by decide) (by decide)
  have g38 := ne 3 8 (by decide) (by decide) (by decide)
  have g45 := ne 4 5 (by decide) (by decide) (by decide)
  have g46 := ne 4 6 (by decide) (by decide) (by decide)
  have g47 := ne 4 7 (by decide) (by decide) (by decide)
  have g48 := ne 4 8 (by decide) (by decide) (by decide)
  have g56 := ne 5 6 (by decide) (by decide) (by decide)
  have g57 := ne 5 7 (by decide) (by decide) (by decide)
  have g58 := ne 5 8 (by decide) (by decide) (by decide)
  have g67 := ne 6 7 (by decide) (by decide) (by decide)
  have g68 := ne 6 8 (by decide) (by decide) (by decide)
  have g78 := ne 7 8 (by decide) (by decide) (by decide)
  have a3 := na 3 (by decide)
  have a4 := na 4 (by decide)
  have a5 := na 5 (by decide)
  have a6 := na 6 (by decide)
  have a7 := na 7 (by decide)
  have a8 := na 8 (by decide)
  have v3 : ∀ k, gi σ0 (e 3) k = if k = mo then s else gi σ (e 3) k := fun k => by rw [← hσ0]; simp [gi_si, g34, g35, g36, g37, g38, a3]
  have v4 : ∀ k, gi σ0 (e 4) k = if k = mo then nI i else gi σ (e 4) k := fun k => by rw [← hσ0]; simp [gi_si, g34.symm, g45, g46, g47, g48, a4]
  have v5 : ∀ k, gi σ0 (e 5) k = if k = mo then A else gi σ (e 5) k := fun k => by rw [← hσ0]; simp [gi_si, g35.symm, g45.symm, g56, g57, g58, a5]
  have v6 : ∀ k, gi σ0 (e 6) k = if k = mo then B else gi σ (e 6) k := fun k => by rw [← hσ0]; simp [gi_si, g36.symm, g46.symm, g56.symm, g67, g68, a6]
  have v7 : ∀ k, gi σ0 (e 7) k = if k = mo then C else gi σ (e 7) k := fun k => by rw [← hσ0]; simp [gi_si, g37.symm, g47.symm, g57.symm, g67.symm, g78, a7]
  have v8 : ∀ k, gi σ0 (e 8) k = if k = mo then D else gi σ (e 8) k := fun k => by rw [← hσ0]; simp [gi_si, g38.symm, g48.symm, g58.symm, g68.symm, g78.symm, a8]
  have hf0 : Fr (WT a e) σ σ0 := by
    rw [← hσ0]
    exact (((((((Fr.rf.wi _ (Or.inr ⟨3, by omega, rfl⟩)).wi _ (Or.inr ⟨4, by omega, rfl⟩)).wi _ (Or.inr ⟨5, by omega, rfl⟩)).wi _ (Or.inr ⟨6, by omega, rfl⟩)).wi _ (Or.inr ⟨7, by omega, rfl⟩)).wi _ (Or.inr ⟨8, by omega, rfl⟩)).wi _ (Or.inl ⟨rfl, Or.inl rfl⟩))
  have z9 : gi σ0 a 9 = gi σ a 9 := by
    rw [← hσ0]
    simp [gi_si, a3.symm, a4.symm, a5.symm, a6.symm, a7.symm, a8.symm]
  have z2 : gi σ0 a 2 = nI (mo + 1) := by rw [← hσ0, gi_ss]
  have zz : ∀ j, (10 ≤ j ∧ j ≤ 13) → ∀ k, gi σ0 (e j) k = gi σ (e j) k := fun j hj k => by
    have hkj : k9 j ≠ none := by
      rcases (show j = 10 ∨ j = 11 ∨ j = 12 ∨ j = 13 by omega) with rfl | rfl | rfl | rfl <;> decide
    rw [← hσ0]
    simp [gi_si, ne j 3 hkj (by decide) (by omega), ne j 4 hkj (by decide) (by omega), ne j 5 hkj (by decide) (by omega), ne j 6 hkj (by decide) (by omega), ne j 7 hkj (by decide) (by omega), ne j 8 hkj (by decide) (by omega), na j hkj]
  have w3 := v3 mo
  have w4 := v4 mo
  have w5 := v5 mo
  have w6 := v6 mo
  have w7 := v7 mo
  have w8 := v8 mo
  rw [if_pos rfl] at w3 w4 w5 w6 w7 w8
  refine X9_goOne (ρ := g.1) (i := i) (hL.sk sk0) hmo (z9.trans r1) r2 (fun j hj => by rw [zz 10 (by omega), zz 11 (by omega), zz 12 (by omega), zz 12 (by omega), zz 13 (by omega)]; exact r3 j hj) w4 hi60 (by rw [w3]; exact h0) (by rw [w3]; exact h1) (by rw [w3, w5]; exact h2) (fun σ' sk hf hR' => ?_)
  rw [w3, w5, w6, w7, w8] at hR'
  have hkeep : ∀ j, (3 ≤ j ∧ j ≤ 8) → ∀ k, gi σ' (e j) k = gi σ0 (e j) k := fun j hj k => by
    have hkj : k9 j ≠ none := by
      rcases (show j = 3 ∨ j = 4 ∨ j = 5 ∨ j = 6 ∨ j = 7 ∨ j = 8 by omega) with rfl | rfl | rfl | rfl | rfl | rfl <;> decide
    refine (hf (e j) k (fun z => ?_)).1
    rcases z with z | z | z | z | z
    · exact na j hkj z.1
    · exact ne j 10 hkj (by decide) (by omega) z
    · exact ne j 11 hkj (by decide) (by omega) z
    · exact ne j 12 hkj (by decide) (by omega) z
    · exact ne j 13 hkj (by decide) (by omega) z
  refine hp σ' (sk0.tr sk) (hf0.tr (hf.mono (fun b k w => ?_))) hR' ⟨?_, by omega, fun k hk => ?_⟩
  · rcases w with w | w | w | w | w
    · exact Or.inl ⟨w.1, Or.inr w.2⟩
    · exact Or.inr ⟨10, by omega, w⟩
    · exact Or.inr ⟨11, by omega, w⟩
    · exact Or.inr ⟨12, by omega, w⟩
    · exact Or.inr ⟨13, by omega, w⟩
  · refine ((hf a 2 (fun z => ?_)).1).trans z2
    rcases z with z | z | z | z | z
    · exact absurd z.2 (by decide)
    · exact na 10 (by decide) z.symm
    · exact na 11 (by decide) z.symm
    · exact na 12 (by decide) z.symm
    · exact na 13 (by decide) z.symm
  · rw [hkeep 3 (by omega), hkeep 4 (by omega), hkeep 5 (by omega), hkeep 6 (by omega), hkeep 7 (by omega), hkeep 8 (by omega), v3, v4, v5, v6, v7, v8]
    by_cases hkm : k = mo
    · subst hkm
      refine ⟨i, by simp, hi60, ?_, ?_, ?_, ?_⟩
      · simpa [hg] using h0
      · simpa [hg] using h1
      · simpa using h2
      · simp [hg]
    · obtain ⟨i', e1, e2, e3, e4, e5, e6⟩ := m3 k (by omega)
      have n1 : ¬ k = mo + 1 := by omega
      have n2 : ¬ k + 1 = mo + 1 := by omega
      refine ⟨i', by simpa [hkm] using e1, e2, ?_, ?_, ?_, ?_⟩
      · simpa [hkm, n1] using e3
      · simpa [hkm, n1] using e4
      · simpa [hkm, n1] using e5
      · simpa [hkm, n1, n2] using e6
