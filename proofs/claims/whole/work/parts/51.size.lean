/-! size, mark, same -/
section SIZE8
variable {σ σ' σ0 : Hp} {c : Nat → Nat} {s : Nat} {g : G1} {t : G2} {sh : SHT} {rl : RLT} {sc : SCT}
/-- a paper gathered in the class's first or other paper, from the rows as they are -/
theorem T8.gather {ib : Nat} {x : Int32} {post : Hp → Prop} (h : T8 σ c s g t sh rl sc) (hb : ib = 22 ∨ ib = 24) (hA0 : Ag (S8 c rl.1) (S8 c rl.1) σ0 σ) (hg : WFR g.1) (hsh : SHok sh) (hp : ∀ σ', T8 σ' c s g t sh rl sc → Ag (S8 c rl.1) (S8 c rl.1) σ0 σ' → Ag (IL c [ib, ib + 1]) (fun _ => False) σ σ' → PP σ' (c ib) (c (ib + 1)) (cut (gM g.1 sh x).1) (mk1 (gM g.1 sh x).1) → post σ') : P_X1_gather (c ib) (c s) (c 1) x σ post := by
  refine X1_gather (ia := 1) ⟨Or.inl rfl, hb⟩ h.1 h.2.2.2.2.1 h.2.1 hg hsh (fun σ' h' => ?_)
  obtain ⟨n1, n2, n3, n4, n5, n6⟩ := h'
  have hl : ∀ i ∈ [ib, ib + 1], i < 26 := by
    intro i hi
    simp at hi; omega
  have n : ∀ i, k8 rl.1 i ≠ none → i ≠ ib → i ≠ ib + 1 → ¬ IL c [ib, ib + 1] (c i) := fun i hi h1 h2 => IL.not h.1 hl hi (by simp; omega)
  obtain ⟨h1, h2, h3, h5, h6, h7, h8⟩ := h
  have m : ∀ i, i < 22 → ¬ IL c [ib, ib + 1] (c i) := fun i hi => n i (k8_n (by omega)) (by omega) (by omega)
  refine hp σ' ⟨n1, n3, h3.ag n5 (m 3 (by decide)) id id (fun q hq => IL.n4 h1 hl hq), h5.ag h1 n5 (m 5 (by decide)) (m 6 (by decide)), n2, h7.ag h1 n5 (fun i hi26 hi => n i hi (by omega) (by omega)), h8.ag h1 n5 (m 0 (by decide))⟩ (hA0.tr (n5.mono (fun b hb => S8.il hl hb) (fun b hb => hb.elim))) n5 n4.1
theorem T8_size {x : Int32} {post : Int32 → Hp → Prop} (h : T8 σ c s g t sh rl sc) (hg : WFR g.1) (hsh : SHok sh) (hp : ∀ σ', T8 σ' c s g t sh rl sc → Ag (S8 c rl.1) (S8 c rl.1) σ σ' → post (nI (cut (gM g.1 sh x).1)) σ') : P_X8_size (c 0) x σ post := by
  unfold P_X8_size
  refine ⟨h.1.k 0 (by decide) rfl, c 1, h.1.r 0 0 1 (by decide), c s, h.1.2.2.2.1.2.1, c 22, h.1.r 0 11 22 (by decide), h.1.k 22 (by decide) rfl, h.gather (Or.inl rfl) Ag.rf hg hsh (fun σ' h' hA _ hP => ⟨h'.1.k 0 (by decide) rfl, c 22, h'.1.r 0 11 22 (by decide), h'.1.k 22 (by decide) rfl, X1_length hP (hp σ' h' hA)⟩)⟩
theorem T8_mark {x i : Int32} {post : Int32 → Hp → Prop} (h : T8 σ c s g t sh rl sc) (hg : WFR g.1) (hsh : SHok sh) (hp : ∀ σ', T8 σ' c s g t sh rl sc → Ag (S8 c rl.1) (S8 c rl.1) σ σ' → post (oAt (cut (gM g.1 sh x).1) (mk1 (gM g.1 sh x).1) i) σ') : P_X8_mark (c 0) x i σ post := by
  unfold P_X8_mark
  refine ⟨h.1.k 0 (by decide) rfl, c 1, h.1.r 0 0 1 (by decide), c s, h.1.2.2.2.1.2.1, c 22, h.1.r 0 11 22 (by decide), h.1.k 22 (by decide) rfl, h.gather (Or.inl rfl) Ag.rf hg hsh (fun σ' h' hA _ hP => ⟨h'.1.k 0 (by decide) rfl, c 22, h'.1.r 0 11 22 (by decide), h'.1.k 22 (by decide) rfl, X1_at hP (hp σ' h' hA)⟩)⟩
end SIZE8
section SIZE9
variable {σ σ' σ0 : Hp} {a : Nat} {e : Nat → Nat} {g : G1} {t : G2} {sh : SHT} {rl : RLT} {sc : SCT}
theorem T9_size {x : Int32} {post : Int32 → Hp → Prop} (h : T9 σ a e g t sh rl sc) (hg : WFR g.1) (hsh : SHok sh) (hp : ∀ σ', T9 σ' a e g t sh rl sc → SK σ σ' → Fr (W9 a e) σ σ' → post (nI (cut (gM g.1 sh x).1)) σ') : P_X9_size a x σ post := by
  unfold P_X9_size
  refine ⟨h.1.1, (h.thr 0).make hg hsh (fun σ' h' => ⟨h'.1.1.1, ?_⟩)⟩
  rw [h'.2.2.2.2.1.1]
  exact hp σ' h'.1 ((SK.wi _ _ _).tr h'.2.1) ((Fr.rf.ob _ _).tr h'.2.2.1)
/-- a mark of the paper made -/
theorem N9.at {st : PST} {k : Nat} {fr : FRT} {i : Int32} {P : Int32 → Hp → Prop} (h : N9 σ0 a e g t sh rl sc σ st k fr) (hp : P (oAt (cut st.1) (mk1 st.1) i) σ) : P_X9_in (Int32.toInt64 i) (0 : Int64) ((Int32.toInt64 (gi σ a 40)) - (1 : Int64)) σ (fun (r2 : Int32) (σ2 : Hp) => (r2 = 0 → P (-5000 : Int32) σ2) ∧ (¬ (r2 = 0) → gk σ2 a = some (9, 0) ∧ ∃ b3 : Nat, (gr σ2 a 41) = some b3 ∧ ∃ n4 : Nat, gk σ2 b3 = some (10, n4) ∧ vp_in i n4 ∧ P (gi σ2 b3 (Int32.toNatClampNeg i)) σ2)) := by
  obtain ⟨m1, m2, m3⟩ := h.2.2.2.2.1
  have hcl := cut_le st.1
  have hL := h.1.1
  have hc : (Int32.toInt64 (gi σ a 40) - 1).toInt = (cut st.1 : Int) - 1 := by
    have h9 : (Int32.toInt64 (gi σ a 40)).toInt = (cut st.1 : Int) := by rw [m1, i64of, nIi (by omega)]
    have h8 : (1 : Int64).toInt = 1 := by decide
    rw [lsub (by rw [h9, h8]; omega) (by rw [h9, h8]; omega), h9, h8]
  refine X9_in ?_
  rw [hc, i64of, show (0 : Int64).toInt = 0 by decide]
  unfold oAt at hp
  by_cases hx : 0 ≤ i.toInt ∧ i.toInt < cut st.1
  · rw [if_pos hx] at hp
    rw [if_pos (by omega)]
    refine ⟨fun z => absurd z (by decide), fun _ => ⟨hL.1, e 41, hL.r 41 rfl, 600, hL.k 41 rfl, vin (by omega) (by omega), ?_⟩⟩
    rw [(m2 i.toNatClampNeg (by rw [icl]; omega)).1]
    exact hp
  · rw [if_neg hx] at hp
    rw [if_neg (by omega)]
    exact ⟨fun _ => hp, fun z => absurd rfl z⟩
theorem T9_mark {x i : Int32} {post : Int32 → Hp → Prop} (h : T9 σ a e g t sh rl sc) (hg : WFR g.1) (hsh : SHok sh) (hp : ∀ σ', T9 σ' a e g t sh rl sc → SK σ σ' → Fr (W9 a e) σ σ' → post (oAt (cut (gM g.1 sh x).1) (mk1 (gM g.1 sh x).1) i) σ') : P_X9_mark a x i σ post := by
  unfold P_X9_mark
  exact ⟨h.1.1, (h.thr 0).make hg hsh (fun σ' h' => ⟨h'.1.1.1, h'.at (hp σ' h'.1 ((SK.wi _ _ _).tr h'.2.1) ((Fr.rf.ob _ _).tr h'.2.2.1))⟩)⟩
end SIZE9
section CALLS
variable {σ : Hp} {a8 a9 : Nat} {K : Hp → Prop}
theorem call_size {x1 : Int32} (h : TIE a8 a9 σ) (hK : ∀ σ', TIE a8 a9 σ' → K σ') {Q8 : Int32 → Hp → Prop} (hQ : ∀ r1 σ1, (gk σ1 a9 = some (9, 0) ∧ P_X9_size a9 x1 σ1 (fun r2 σ2 => (r1 = r2 → K σ2) ∧ (¬ r1 = r2 → False))) → Q8 r1 σ1) : P_X8_size a8 x1 σ Q8 := by
  obtain ⟨c, e, s, g, t, sh, rl, sc, rfl, hT8, hT9, hdis, hg, hsh, hrl⟩ := h
  exact both (P9 := fun σ1 post => P_X9_size a9 x1 σ1 post) hT8 hT9 hdis hg hsh hrl (fun post hp => T8_size hT8 hg.wf hsh hp) (fun σ1 post h9 hp => T9_size h9 hg.wf hsh hp) hK hQ
theorem call_mark {x1 x2 : Int32} (h : TIE a8 a9 σ) (hK : ∀ σ', TIE a8 a9 σ' → K σ') {Q8 : Int32 → Hp → Prop} (hQ : ∀ r1 σ1, (gk σ1 a9 = some (9, 0) ∧ P_X9_mark a9 x1 x2 σ1 (fun r2 σ2 => (r1 = r2 → K σ2) ∧ (¬ r1 = r2 → False))) → Q8 r1 σ1) : P_X8_mark a8 x1 x2 σ Q8 := by
  obtain ⟨c, e, s, g, t, sh, rl, sc, rfl, hT8, hT9, hdis, hg, hsh, hrl⟩ := h
  exact both (P9 := fun σ1 post => P_X9_mark a9 x1 x2 σ1 post) hT8 hT9 hdis hg hsh hrl (fun post hp => T8_mark hT8 hg.wf hsh hp) (fun σ1 post h9 hp => T9_mark h9 hg.wf hsh hp) hK hQ
end CALLS
