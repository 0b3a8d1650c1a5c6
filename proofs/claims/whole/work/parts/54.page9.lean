section PAGE9
variable {σ σ' σ0 : Hp} {a : Nat} {e : Nat → Nat} {g : G1} {t : G2} {sh : SHT} {rl : RLT} {sc : SCT}
theorem N9.page86 {st : PST} {q : Nat} {fr : FRT} {n k i y : Int32} {post : Int32 → Hp → Prop} (h : N9 σ0 a e g t sh rl sc σ st q fr) (hy : y.toInt = mny (cut st.1) n k) (hp : post (oPage (cut st.1) (mk1 st.1) n k i) σ) : J_X9_page_86 post a n k i y σ := by
  have hcl := cut_le st.1
  obtain ⟨m1, m2, m3⟩ := h.2.2.2.2.1
  have hL := h.1.1
  have hm := mny_in (cut st.1) n k
  unfold J_X9_page_86
  unfold oPage at hp
  refine ⟨fun z => X9_in ?_, fun z => ?_⟩
  · rw [if_neg z] at hp
    have hc : (Int32.toInt64 y - 1).toInt = mny (cut st.1) n k - 1 := by
      have h9 : (Int32.toInt64 y).toInt = mny (cut st.1) n k := by rw [i64of, hy]
      have h8 : (1 : Int64).toInt = 1 := by decide
      rw [lsub (by rw [h9, h8]; omega) (by rw [h9, h8]; omega), h9, h8]
    rw [hc, i64of, show (0 : Int64).toInt = 0 by decide]
    by_cases hi : 0 ≤ i.toInt ∧ i.toInt < mny (cut st.1) n k
    · rw [if_pos hi] at hp
      rw [if_pos (by omega)]
      obtain ⟨u1, u2, u3, u4, u5, u6⟩ := mny_pos hcl hi.1 hi.2
      have e1 : (n * k).toInt = k.toInt * n.toInt := by
        rw [imul (by rw [Int.mul_comm]; omega) (by rw [Int.mul_comm]; omega), Int.mul_comm]
      have e2 : (n * k + i).toInt = k.toInt * n.toInt + i.toInt := by
        rw [iadd (by rw [e1]; omega) (by rw [e1]; omega), e1]
      refine ⟨fun z => absurd z (by decide), fun _ => ⟨hL.1, e 41, hL.r 41 rfl, 600, hL.k 41 rfl, vin (by rw [e2]; omega) (by rw [e2]; omega), ?_⟩⟩
      rw [icl, e2, (m2 _ (by omega)).1]
      exact hp
    · rw [if_neg hi] at hp
      rw [if_neg (by omega)]
      exact ⟨fun _ => hp, fun z => absurd rfl z⟩
  · rw [if_pos z] at hp
    have : y = nI (mny (cut st.1) n k).toNat := by rw [ieq, hy, nIi (by omega)]; omega
    rw [this]; exact hp
theorem T9.page34 {x n k i y0 : Int32} {post : Int32 → Hp → Prop} (h : T9 σ a e g t sh rl sc) (hs : SK σ0 σ) (hf : Fr (W9 a e) σ0 σ) (hg : WFR g.1) (hsh : SHok sh) (hy : (y0 = 0 ∧ ¬ (1 ≤ n.toInt ∧ n.toInt ≤ 100 ∧ 0 ≤ k.toInt ∧ k.toInt ≤ 599)) ∨ (y0 = 1 ∧ (1 ≤ n.toInt ∧ n.toInt ≤ 100 ∧ 0 ≤ k.toInt ∧ k.toInt ≤ 599))) (hp : ∀ σ', T9 σ' a e g t sh rl sc → SK σ0 σ' → Fr (W9 a e) σ0 σ' → post (oPage (cut (gM g.1 sh x).1) (mk1 (gM g.1 sh x).1) n k i) σ') : J_X9_page_34 post a x n k i y0 σ := by
  unfold J_X9_page_34
  refine ⟨h.1.1, h.make hg hsh (fun σ' h' => ?_)⟩
  replace hp := hp σ' h'.1 (hs.tr h'.2.1) (hf.tr h'.2.2.1)
  have hcl := cut_le (gM g.1 sh x).1
  have m1 := h'.2.2.2.2.1.1
  rcases hy with ⟨rfl, hn⟩ | ⟨rfl, hn⟩
  · refine ⟨fun _ => ?_, fun z => absurd rfl z⟩
    unfold J_X9_page_58
    refine ⟨fun _ => ?_, fun z => absurd rfl z⟩
    unfold J_X9_page_70
    exact h'.page86 (by rw [mny_bad hcl hn]; rfl) hp
  · refine ⟨fun z => absurd z (by decide), fun _ => ⟨h'.1.1.1, ?_⟩⟩
    unfold J_X9_page_58
    rw [m1]
    obtain ⟨q1, q2, q3⟩ := l_mul (n := n) (k := k) hn.1 hn.2.1 hn.2.2.1
    have p1 : k.toInt * n.toInt ≤ 599 * n.toInt := Int.mul_le_mul_of_nonneg_right hn.2.2.2 (by omega)
    have e1 : (n * k).toInt = k.toInt * n.toInt := by
      rw [imul (by rw [Int.mul_comm]; omega) (by rw [Int.mul_comm]; omega), Int.mul_comm]
    have e2 : (nI (cut (gM g.1 sh x).1) - n * k).toInt = (cut (gM g.1 sh x).1 : Int) - k.toInt * n.toInt := by
      have e3 : (nI (cut (gM g.1 sh x).1)).toInt = (cut (gM g.1 sh x).1 : Int) := nIi (by omega)
      rw [isub (by rw [e1, e3]; omega) (by rw [e1, e3]; omega), e1, e3]
    have hmn : mny (cut (gM g.1 sh x).1) n k = if (cut (gM g.1 sh x).1 : Int) - k.toInt * n.toInt < n.toInt then (if (cut (gM g.1 sh x).1 : Int) - k.toInt * n.toInt < 0 then 0 else (cut (gM g.1 sh x).1 : Int) - k.toInt * n.toInt) else n.toInt := by
      unfold mny
      exact if_pos ⟨by omega, by omega, by omega⟩
    refine ⟨fun z => absurd z (by decide), fun _ => ⟨fun z => ⟨fun w => ?_, fun w => ?_⟩, fun z => ?_⟩⟩
    · rw [ile, e2, show (0 : Int32).toInt = 0 by decide] at z
      rw [ile, e2] at w
      refine h'.page86 ?_ hp
      rw [hmn, e2]
      split
      · rw [if_neg (by omega)]
      · omega
    · rw [ile, e2] at w
      refine h'.page86 ?_ hp
      rw [hmn, if_neg (by omega)]
    · rw [ile, e2, show (0 : Int32).toInt = 0 by decide] at z
      unfold J_X9_page_70
      refine h'.page86 ?_ hp
      rw [hmn, if_pos (by omega), if_pos (by omega)]
      rfl
theorem T9_page {x n k i : Int32} {post : Int32 → Hp → Prop} (h : T9 σ a e g t sh rl sc) (hg : WFR g.1) (hsh : SHok sh) (hp : ∀ σ', T9 σ' a e g t sh rl sc → SK σ σ' → Fr (W9 a e) σ σ' → post (oPage (cut (gM g.1 sh x).1) (mk1 (gM g.1 sh x).1) n k i) σ') : P_X9_page a x n k i σ post := by
  unfold P_X9_page
  have hT := h.thr 0
  have hs : SK σ (si σ a 0 0) := SK.wi _ _ _
  have hf : Fr (W9 a e) σ (si σ a 0 0) := Fr.rf.ob _ _
  refine ⟨h.1.1, X9_in ?_⟩
  rw [i64of, show (1 : Int64).toInt = 1 by decide, show (100 : Int64).toInt = 100 by decide]
  by_cases h1 : 1 ≤ n.toInt ∧ n.toInt ≤ 100
  rotate_left
  · rw [if_neg h1]
    refine ⟨fun _ => ?_, fun z => absurd rfl z⟩
    exact hT.page34 hs hf hg hsh (Or.inl ⟨rfl, fun z => h1 ⟨z.1, z.2.1⟩⟩) hp
  rw [if_pos h1]
  refine ⟨fun z => absurd z (by decide), fun _ => X9_in ?_⟩
  rw [i64of, show (0 : Int64).toInt = 0 by decide, show (599 : Int64).toInt = 599 by decide]
  by_cases h2 : 0 ≤ k.toInt ∧ k.toInt ≤ 599
  · rw [if_pos h2]
    exact ⟨fun z => absurd z (by decide), fun _ => hT.page34 hs hf hg hsh (Or.inr ⟨rfl, h1.1, h1.2, h2.1, h2.2⟩) hp⟩
  · rw [if_neg h2]
    exact ⟨fun _ => hT.page34 hs hf hg hsh (Or.inl ⟨rfl, fun z => h2 z.2.2⟩) hp, fun z => absurd rfl z⟩
end PAGE9
section CALLS
variable {σ : Hp} {a8 a9 : Nat} {K : Hp → Prop}
theorem call_page {x1 x2 x3 x4 : Int32} (h : TIE a8 a9 σ) (hK : ∀ σ', TIE a8 a9 σ' → K σ') {Q8 : Int32 → Hp → Prop} (hQ : ∀ r1 σ1, (gk σ1 a9 = some (9, 0) ∧ P_X9_page a9 x1 x2 x3 x4 σ1 (fun r2 σ2 => (r1 = r2 → K σ2) ∧ (¬ r1 = r2 → False))) → Q8 r1 σ1) : P_X8_page a8 x1 x2 x3 x4 σ Q8 := by
  obtain ⟨c, e, s, g, t, sh, rl, sc, rfl, hT8, hT9, hdis, hg, hsh, hrl⟩ := h
  exact both (P9 := fun σ1 post => P_X9_page a9 x1 x2 x3 x4 σ1 post) hT8 hT9 hdis hg hsh hrl (fun post hp => T8_page hT8 hg.wf hsh hp) (fun σ1 post h9 hp => T9_page h9 hg.wf hsh hp) hK hQ
end CALLS
