/-! asOf -/
/-- the rows cleared: none -/
theorem X5_clear {σ : Hp} {a ra : Nat} {ρ : RM} {post : Hp → Prop} (h1 : gk σ a = some (5, 0)) (h2 : gr σ a 0 = some ra) (h3 : gk σ ra = some (13, 60)) (h0 : ρ.1 = 0) (hp : ∀ σ', Ag (fun b => b = a) (fun b => b = ra) σ σ' → RS σ' a ra ρ → post σ') : P_X5_clear a σ post := by
  have hne : a ≠ ra := ne_kd h1 h3 (by decide)
  unfold P_X5_clear
  intro I hI
  have key : ∀ m v σ', v + m = 60 → Ag (fun b => b = a) (fun b => b = ra) σ σ' → gk σ' a = some (5, 0) → gr σ' a 0 = some ra → gk σ' ra = some (13, 60) → (∀ i, i < v → gr σ' ra i = none) → I (nI v) σ' := by
    intro m
    induction m with
    | zero =>
      intro v σ' hv hA k1 k2 k3 k4
      obtain rfl : v = 60 := by omega
      refine hI _ _ ⟨k1, ra, k2, 60, k3, fun _ => hp _ (hA.wi _ (Or.inl rfl)) ⟨k1, k2, k3, ?_, by omega, fun i hi => absurd hi (by omega), fun i _ hi => k4 i hi⟩, fun z => absurd (by decide) z⟩
      rw [gi_ss, h0]; rfl
    | succ m ih =>
      intro v σ' hv hA k1 k2 k3 k4
      refine hI _ _ ⟨k1, ra, k2, 60, k3, fun z => ?_, fun _ => ⟨vinN (by omega) (by decide), ?_⟩⟩
      · rw [ile, ofn, nIi (by omega), nIi (by omega)] at z; omega
      · rw [clN (by omega), nI_1]
        refine ih (v + 1) _ (by omega) (hA.wr _ (Or.inl rfl)) k1 (by rw [gr_sa hne]; exact k2) k3 (fun i hi => ?_)
        rw [gr_sr]
        by_cases hiv : i = v
        · rw [if_pos ⟨rfl, hiv⟩]
        · rw [if_neg (fun z => hiv z.2)]; exact k4 i (by omega)
  exact key 60 0 σ rfl Ag.rf h1 h2 h3 (fun i hi => absurd hi (Nat.not_lt_zero _))
/-- what is asked of a paper: how many marks, or one -/
def oLook (l : List (Int32 × Int32)) (i : Int32) : Int32 := if i = -1 then nI (cut l) else oAt (cut l) (mk1 l) i
def asR (g : G1) (m : Int32) : RM := if 0 ≤ m.toInt ∧ m.toInt ≤ g.2.2 then g.2.1 m.toNatClampNeg else g.2.1 0
def oAsOf (g : G1) (sh : SHT) (m x i : Int32) : Int32 := oLook (gM (asR g m) sh x).1 i
theorem gM_0 {ρ : RM} {sh : SHT} (h : ρ.1 = 0) (x : Int32) : (gM ρ sh x).1 = [] := by
  unfold gM
  rw [if_neg]
  intro z
  have := z.2.1.1
  omega
theorem oLook_0 (i : Int32) : oLook [] i = if i = -1 then 0 else -5000 := by
  unfold oLook
  by_cases hi : i = -1
  · rw [if_pos hi, if_pos hi]; rfl
  · rw [if_neg hi, if_neg hi]
    unfold oAt
    rw [if_neg (fun z => absurd z.2 (by show ¬ i.toInt < ((0 : Nat) : Int); omega))]
section ASOF8
variable {σ σ' σ0 : Hp} {c : Nat → Nat} {s : Nat} {g : G1} {t : G2} {sh : SHT} {rl : RLT} {sc : SCT} {ρ : RM}
/-- only `then` changes -/
theorem T8.thn (h : T8 σ c s g t sh rl sc) (hA : Ag (IL c [20]) (IL c [21]) σ σ') : T8 σ' c s g t sh rl sc := by
  obtain ⟨h1, h2, h3, h5, h6, h7, h8⟩ := h
  have hs8 : s = 8 ∨ s = 14 := h1.2.2.2.1.1
  have m : ∀ i, k8 rl.1 i ≠ none → i ≠ 20 → ¬ IL c [20] (c i) := fun i hi hn => IL.not h1 (by decide) hi (by simp; omega)
  have n : ∀ i, k8 rl.1 i ≠ none → i ≠ 21 → ¬ IL c [21] (c i) := fun i hi hn => IL.not h1 (by decide) hi (by simp; omega)
  have k : ∀ i, i < 26 → k8 rl.1 i ≠ none := fun i hi => k8_n hi
  have n4 : ∀ q, gk σ q = some (4, 0) → ¬ IL c [20] q := fun q hq => IL.n4 h1 (by decide) hq
  exact ⟨h1.ag hA (fun i hi hT => Classical.byContradiction fun z => n i hi (by omega) hT), h2.ag hA (m 1 (k 1 (by decide)) (by decide)) (n 1 (k 1 (by decide)) (by decide)) (n 2 (k 2 (by decide)) (by decide)) n4, h3.ag hA (m 3 (k 3 (by decide)) (by decide)) (n 3 (k 3 (by decide)) (by decide)) (n 4 (k 4 (by decide)) (by decide)) n4, h5.ag h1 hA (m 5 (k 5 (by decide)) (by decide)) (m 6 (k 6 (by decide)) (by decide)), h6.ag h1 hA (fun j hj => m (s + j) (k _ (by omega)) (by omega)), h7.ag h1 hA (fun i hi26 hi => m i hi (by omega)), h8.ag h1 hA (m 0 (k 0 (by decide)) (by decide))⟩
theorem T8.thn' (h : T8 σ c s g t sh rl sc) (hA : Ag (fun b => b = c 20) (fun b => b = c 21) σ σ') : T8 σ' c s g t sh rl sc ∧ Ag (S8 c rl.1) (S8 c rl.1) σ σ' :=
  ⟨h.thn (hA.mono (fun b hb => ⟨20, by simp, hb⟩) (fun b hb => ⟨21, by simp, hb⟩)), hA.mono (fun b hb => ⟨20, k8_n (by decide), hb⟩) (fun b hb => ⟨21, k8_n (by decide), hb⟩)⟩
/-- a paper gathered from the rows in `then` -/
theorem T8.gat20 {ib : Nat} {x : Int32} {post : Hp → Prop} (h : T8 σ c s g t sh rl sc) (hb : ib = 22 ∨ ib = 24) (hA0 : Ag (S8 c rl.1) (S8 c rl.1) σ0 σ) (hR : RS σ (c 20) (c 21) ρ) (hW : WFR ρ) (hsh : SHok sh) (hp : ∀ σ', T8 σ' c s g t sh rl sc → Ag (S8 c rl.1) (S8 c rl.1) σ0 σ' → Ag (IL c [ib, ib + 1]) (fun _ => False) σ σ' → PP σ' (c ib) (c (ib + 1)) (cut (gM ρ sh x).1) (mk1 (gM ρ sh x).1) → RS σ' (c 20) (c 21) ρ → post σ') : P_X1_gather (c ib) (c s) (c 20) x σ post := by
  refine X1_gather (ia := 20) ⟨Or.inr rfl, hb⟩ h.1 h.2.2.2.2.1 hR hW hsh (fun σ' h' => ?_)
  obtain ⟨n1, n2, n3, n4, n5, n6⟩ := h'
  have hl : ∀ i ∈ [ib, ib + 1], i < 26 := by
    intro i hi
    simp at hi; omega
  have n : ∀ i, k8 rl.1 i ≠ none → i ≠ ib → i ≠ ib + 1 → ¬ IL c [ib, ib + 1] (c i) := fun i hi h1 h2 => IL.not h.1 hl hi (by simp; omega)
  obtain ⟨h1, h2, h3, h5, h6, h7, h8⟩ := h
  have m : ∀ i, i < 22 → ¬ IL c [ib, ib + 1] (c i) := fun i hi => n i (k8_n (by omega)) (by omega) (by omega)
  have n4' : ∀ q, gk σ q = some (4, 0) → ¬ IL c [ib, ib + 1] q := fun q hq => IL.n4 h1 hl hq
  exact hp σ' ⟨n1, h2.ag n5 (m 1 (by decide)) id id n4', h3.ag n5 (m 3 (by decide)) id id n4', h5.ag h1 n5 (m 5 (by decide)) (m 6 (by decide)), n2, h7.ag h1 n5 (fun i hi26 hi => n i hi (by omega) (by omega)), h8.ag h1 n5 (m 0 (by decide))⟩ (hA0.tr (n5.mono (fun b hb => S8.il hl hb) (fun b hb => hb.elim))) n5 n4.1 n3
theorem T8.replay {x : Int32} {post : Hp → Prop} (h : T8 σ c s g t sh rl sc) (hx : 0 ≤ x.toInt ∧ x.toInt ≤ g.2.2) (hR : RS σ (c 20) (c 21) (g.2.1 0)) (hp : ∀ σ', Ag (fun b => b = c 20) (fun b => b = c 21) σ σ' → RS σ' (c 20) (c 21) (g.2.1 x.toNatClampNeg) → post σ') : P_X0_replay (c 3) x (c 20) σ post := by
  unfold P_X0_replay
  intro I hI
  have hmo : g.2.2 ≤ 300 := h.2.2.1.2.2.2.2.1
  obtain ⟨k, hkb, rfl, hkt⟩ := i_of hx.1
  rw [clN hkb] at hp
  have hk : k ≤ g.2.2 := by omega
  have hd : ∀ i j, i < 26 → j < 26 → i ≠ j → c i ≠ c j := fun i j hi hj hij => h.1.ne hi hj hij
  have key : ∀ m v σ', v + m = k → Ag (fun b => b = c 20) (fun b => b = c 21) σ σ' → RS σ' (c 20) (c 21) (g.2.1 v) → I (nI v) σ' := by
    intro m
    induction m with
    | zero =>
      intro v σ' hv hA hR
      obtain rfl : v = k := by omega
      exact hI _ _ ⟨fun _ => hp _ hA hR, fun z => absurd (nI_le (Nat.le_refl _) (by omega)) z⟩
    | succ m ih =>
      intro v σ' hv hA hR
      have h' := (h.thn' hA).1
      obtain ⟨w1, w2, w3, w4, w5, w6⟩ := h'.2.2.1
      obtain ⟨q, i, d, e1, e2, e3, e4, e5⟩ := w6 v (by omega)
      refine hI _ _ ⟨fun z => absurd z (nI_ge (by omega) (by omega)), fun _ => ⟨w1, c 4, w2, 300, w3, fun z => ?_, fun _ => ⟨vinN (by omega) (by decide), fun z => ?_, fun b hb => ?_⟩⟩⟩
      · rw [ile, ofn, nIi (by omega), nIi (by omega)] at z; omega
      · rw [clN (by omega), e1] at z; cases z
      · rw [clN (by omega), e1] at hb
        cases hb
        rw [nI_1]
        refine ⟨hR.1, X5_put hR e2 e4 (ih (v + 1) _ (by omega) ((hA.wr _ (Or.inl rfl)).wi _ (Or.inl rfl)) ?_)⟩
        rw [e5]
        exact hR.put e2 e3 e4
  exact key k 0 σ (by omega) Ag.rf hR
theorem T8_asOf {x1 x2 x3 : Int32} {post : Int32 → Hp → Prop} (h : T8 σ c s g t sh rl sc) (hg : G1ok g) (hsh : SHok sh) (hp : ∀ σ', T8 σ' c s g t sh rl sc → Ag (S8 c rl.1) (S8 c rl.1) σ σ' → post (oAsOf g sh x1 x2 x3) σ') : P_X8_asOf (c 0) x1 x2 x3 σ post := by
  have hmo : g.2.2 ≤ 300 := h.2.2.1.2.2.2.2.1
  have k0 : gk σ (c 0) = some (8, 0) := h.1.k 0 (by decide) rfl
  unfold P_X8_asOf
  refine ⟨k0, c 20, h.1.r 0 10 20 (by decide), h.1.k 20 (by decide) rfl, X5_clear (ρ := g.2.1 0) (h.1.k 20 (by decide) rfl) (h.1.r 20 0 21 (by decide)) (h.1.k 21 (by decide) rfl) hg.2.1 (fun σ1 hA1 hR1 => ?_)⟩
  obtain ⟨h1, hA1'⟩ := h.thn' hA1
  have fin : ∀ σ2, T8 σ2 c s g t sh rl sc → Ag (S8 c rl.1) (S8 c rl.1) σ σ2 → RS σ2 (c 20) (c 21) (asR g x1) → gk σ2 (c 0) = some (8, 0) ∧ ∃ b3 : Nat, (gr σ2 (c 0) 10) = some b3 ∧ ∃ b4 : Nat, (gr σ2 (c 0) 4) = some b4 ∧ ∃ b5 : Nat, (gr σ2 (c 0) 11) = some b5 ∧ gk σ2 b5 = some (1, 0) ∧ P_X1_gather b5 b4 b3 x2 σ2 (fun (σ6 : Hp) => (¬ x3 = (-1 : Int32) → gk σ6 (c 0) = some (8, 0) ∧ ∃ b7 : Nat, (gr σ6 (c 0) 11) = some b7 ∧ gk σ6 b7 = some (1, 0) ∧ P_X1_at b7 x3 σ6 (fun (r8 : Int32) (σ8 : Hp) => post r8 σ8)) ∧ (x3 = (-1 : Int32) → gk σ6 (c 0) = some (8, 0) ∧ ∃ b9 : Nat, (gr σ6 (c 0) 11) = some b9 ∧ gk σ6 b9 = some (1, 0) ∧ P_X1_length b9 σ6 (fun (r10 : Int32) (σ10 : Hp) => post r10 σ10))) := fun σ2 h2 hA2 hR2 => by
    have hW : WFR (asR g x1) := by
      unfold asR
      split
      · rename_i q
        exact hg.2.2 _ (by rw [icl]; omega)
      · exact hg.2.2 0 (Nat.zero_le _)
    refine ⟨h2.1.k 0 (by decide) rfl, c 20, h2.1.r 0 10 20 (by decide), c s, h2.1.2.2.2.1.2.1, c 22, h2.1.r 0 11 22 (by decide), h2.1.k 22 (by decide) rfl, h2.gat20 (Or.inl rfl) hA2 hR2 hW hsh (fun σ3 h3 hA3 _ hP hR3 => ?_)⟩
    have hp := hp σ3 h3 hA3
    unfold oAsOf oLook at hp
    refine ⟨fun z => ⟨h3.1.k 0 (by decide) rfl, c 22, h3.1.r 0 11 22 (by decide), h3.1.k 22 (by decide) rfl, X1_at hP ?_⟩, fun z => ⟨h3.1.k 0 (by decide) rfl, c 22, h3.1.r 0 11 22 (by decide), h3.1.k 22 (by decide) rfl, X1_length hP ?_⟩⟩
    · rw [if_neg z] at hp; exact hp
    · rw [if_pos z] at hp; exact hp
  have off : ¬ (0 ≤ x1.toInt ∧ x1.toInt ≤ g.2.2) → asR g x1 = g.2.1 0 := fun z => by unfold asR; rw [if_neg z]
  have on : (0 ≤ x1.toInt ∧ x1.toInt ≤ g.2.2) → asR g x1 = g.2.1 x1.toNatClampNeg := fun z => by unfold asR; rw [if_pos z]
  have e3 : gi σ1 (c 3) 1 = nI g.2.2 := h1.2.2.1.2.2.2.1
  refine ⟨fun z => fin σ1 h1 hA1' (by
    rw [ilt, show (0 : Int32).toInt = 0 by decide] at z
    rw [off (fun y => by omega)]; exact hR1), fun z => ⟨h1.1.k 0 (by decide) rfl, c 3, h1.1.r 0 1 3 (by decide), h1.1.k 3 (by decide) rfl, h1.1.k 3 (by decide) rfl, ?_⟩⟩
  rw [e3]
  show (nI g.2.2 < x1 → _) ∧ (¬ (nI g.2.2 < x1) → _)
  rw [ilt, nIi (by omega)]
  rw [ilt, show (0 : Int32).toInt = 0 by decide] at z
  refine ⟨fun y => fin σ1 h1 hA1' (by rw [off (fun w => by omega)]; exact hR1), fun y => ⟨h1.1.k 0 (by decide) rfl, c 20, h1.1.r 0 10 20 (by decide), c 3, h1.1.r 0 1 3 (by decide), h1.1.k 3 (by decide) rfl, h1.replay ⟨by omega, by omega⟩ hR1 (fun σ2 hA2 hR2 => ?_)⟩⟩
  obtain ⟨h2, hA2'⟩ := h1.thn' hA2
  exact fin σ2 h2 (hA1'.tr hA2') (by rw [on ⟨by omega, by omega⟩]; exact hR2)
end ASOF8
section ASOF9
variable {σ σ' σ0 : Hp} {a : Nat} {e : Nat → Nat} {g : G1} {t : G2} {sh : SHT} {rl : RLT} {sc : SCT} {ρ : RM}
theorem WR.not {j k : Nat} (hL : L9 σ a e) (hj : k9 j ≠ none) (hn : ¬ (10 ≤ j ∧ j ≤ 13)) : ¬ WR a e (e j) k := fun z => by
  rcases z with z | z | z | z | z
  · exact hL.na j hj z.1
  · exact hL.ne hj (by decide) (by omega) z
  · exact hL.ne hj (by decide) (by omega) z
  · exact hL.ne hj (by decide) (by omega) z
  · exact hL.ne hj (by decide) (by omega) z
theorem WR.nota {k : Nat} (hL : L9 σ a e) (hn : k ≠ 9) : ¬ WR a e a k := fun z => by
  rcases z with z | z | z | z | z
  · exact hn z.2
  · exact hL.na 10 (by decide) z.symm
  · exact hL.na 11 (by decide) z.symm
  · exact hL.na 12 (by decide) z.symm
  · exact hL.na 13 (by decide) z.symm
theorem WR.w9 {b k : Nat} (h : WR a e b k) : W9 a e b k := by
  rcases h with z | z | z | z | z
  · exact Or.inl z.1
  · exact Or.inr ⟨10, by decide, z⟩
  · exact Or.inr ⟨11, by decide, z⟩
  · exact Or.inr ⟨12, by decide, z⟩
  · exact Or.inr ⟨13, by decide, z⟩
/-- only the reference's rows change -/
theorem T9.rws (h : T9 σ a e g t sh rl sc) (hs : SK σ σ') (hf : Fr (WR a e) σ σ') (hR : R9 σ' a e ρ) : T9 σ' a e (ρ, g.2) t sh rl sc := by
  obtain ⟨h1, -, h3, h4, h5, h6, h7⟩ := h
  have hc : ∀ k, k ≠ 9 → gi σ' a k = gi σ a k := fun k hk => (hf a k (WR.nota h1 hk)).1
  have hk : ∀ j ∈ [3, 4, 5, 6, 7, 8, 15, 16, 17, 18, 19, 20, 32, 49, 50, 51, 52], k9 j ≠ none ∧ ¬ (10 ≤ j ∧ j ≤ 13) := by decide +kernel
  have ha : ∀ j ∈ [3, 4, 5, 6, 7, 8, 15, 16, 17, 18, 19, 20, 32, 49, 50, 51, 52], ∀ k, gi σ' (e j) k = gi σ (e j) k := fun j hj k => (hf (e j) k (WR.not h1 (hk j hj).1 (hk j hj).2)).1
  refine ⟨h1.sk hs, hR, ?_, ?_, ?_, ?_, ?_⟩
  · show H9 σ' a e g.2.1 g.2.2
    unfold H9 at *
    rw [hc 2 (by decide)]
    simpa only [ha 3 (by decide), ha 4 (by decide), ha 5 (by decide), ha 6 (by decide), ha 7 (by decide), ha 8 (by decide)] using h3
  · unfold TP9 at *
    rw [hc 33 (by decide)]
    simpa only [ha 32 (by decide)] using h4
  · unfold SH9 at *
    rw [hc 14 (by decide)]
    simpa only [ha 15 (by decide), ha 16 (by decide), ha 17 (by decide), ha 18 (by decide), ha 19 (by decide), ha 20 (by decide)] using h5
  · unfold RD9 at *
    rw [hc 48 (by decide)]
    simpa only [ha 49 (by decide), ha 50 (by decide), ha 51 (by decide), ha 52 (by decide)] using h6
  · unfold SC9 at *
    rw [hc 53 (by decide), hc 38 (by decide), hc 1 (by decide)]
    exact h7
theorem T9.goTo {x : Int32} {m : Nat} {post : Hp → Prop} (h : T9 σ a e g t sh rl sc) (h0 : (g.2.1 0).1 = 0) (hm : m ≤ g.2.2) (hx : x = nI m) (hp : ∀ σ', T9 σ' a e (g.2.1 m, g.2) t sh rl sc → SK σ σ' → Fr (WR a e) σ σ' → post σ') : P_X9_goTo a x σ post := by
  subst hx
  unfold P_X9_goTo
  refine ⟨h.1.1, ?_⟩
  intro I hI
  have hmo : g.2.2 ≤ 300 := h.2.2.1.2.1
  have key : ∀ d v σ', v + d = m → T9 σ' a e (g.2.1 v, g.2) t sh rl sc → SK σ σ' → Fr (WR a e) σ σ' → I (nI v) σ' := by
    intro d
    induction d with
    | zero =>
      intro v σ' hv h' hs hf
      obtain rfl : v = m := by omega
      exact hI _ _ ⟨fun _ => hp _ h' hs hf, fun z => absurd (nI_le (Nat.le_refl _) (by omega)) z⟩
    | succ d ih =>
      intro v σ' hv h' hs hf
      obtain ⟨m1, m2, m3⟩ := h'.2.2.1
      obtain ⟨i, e1, e2, e3, e4, e5, e6⟩ := m3 v (show v < g.2.2 by omega)
      obtain ⟨r1, r2, r3⟩ := h'.2.1
      refine hI _ _ ⟨fun z => absurd z (nI_ge (by omega) (by omega)), fun _ => ⟨h'.1.1, X9_goOne (ρ := g.2.1 v) (i := i) h'.1 (by omega) r1 r2 r3 e1 e2 e3 e4 e5 (fun σ2 hs2 hf2 hR2 => ?_)⟩⟩
      rw [nI_1]
      refine ih (v + 1) σ2 (by omega) (h'.rws hs2 hf2 ?_) (hs.tr hs2) (hf.tr hf2)
      have e6 : g.2.1 (v + 1) = _ := e6
      rw [e6]; exact hR2
  refine key m 0 _ (by omega) (h.rws (SK.wi _ _ _) (Fr.rf.wi _ (Or.inl ⟨rfl, rfl⟩)) ⟨?_, ?_, fun i hi => ?_⟩) (SK.wi _ _ _) (Fr.rf.wi _ (Or.inl ⟨rfl, rfl⟩))
  · rw [gi_ss, h0]; rfl
  · rw [h0]; omega
  · rw [h0] at hi; exact absurd hi (Nat.not_lt_zero _)
theorem T9_asOf {x1 x2 x3 : Int32} {post : Int32 → Hp → Prop} (h : T9 σ a e g t sh rl sc) (hg : G1ok g) (hsh : SHok sh) (hp : ∀ σ', T9 σ' a e g t sh rl sc → SK σ σ' → Fr (W9 a e) σ σ' → post (oAsOf g sh x1 x2 x3) σ') : P_X9_asOf a x1 x2 x3 σ post := by
  unfold P_X9_asOf
  have hT := h.thr 0
  have hs : SK σ (si σ a 0 0) := SK.wi _ _ _
  have hf : Fr (W9 a e) σ (si σ a 0 0) := Fr.rf.ob _ _
  have hmo : g.2.2 ≤ 300 := h.2.2.1.2.1
  have e2 : gi σ a 2 = nI g.2.2 := h.2.2.1.1
  rw [e2]
  generalize si σ a 0 0 = σ1 at hT hs hf ⊢
  refine ⟨h.1.1, X9_in ?_⟩
  rw [i64of, i64of, nIi (by omega), show (0 : Int64).toInt = 0 by decide]
  by_cases hm : 0 ≤ x1.toInt ∧ x1.toInt ≤ g.2.2
  rotate_left
  · rw [if_neg hm]
    have hp := hp σ1 hT hs hf
    have he : oAsOf g sh x1 x2 x3 = if x3 = -1 then 0 else -5000 := by
      unfold oAsOf asR
      rw [if_neg hm, gM_0 hg.2.1]
      exact oLook_0 x3
    rw [he] at hp
    refine ⟨fun _ => ⟨fun z => ?_, fun z => ?_⟩, fun z => absurd rfl z⟩
    · rwa [if_neg z] at hp
    · rwa [if_pos z] at hp
  rw [if_pos hm]
  have hk : x1.toNatClampNeg ≤ g.2.2 := by rw [icl]; omega
  have hA : asR g x1 = g.2.1 x1.toNatClampNeg := by unfold asR; rw [if_pos hm]
  refine ⟨fun z => absurd z (by decide), fun _ => ⟨hT.1.1, hT.goTo hg.2.1 hk (nI_cl hm.1).symm (fun σ2 h2 hs2 hf2 => ⟨h2.1.1, h2.make (hg.2.2 _ hk) hsh (fun σ3 h3 => ?_)⟩)⟩⟩
  have hs3 : SK σ σ3 := (hs.tr hs2).tr h3.2.1
  have hf3 : Fr (W9 a e) σ σ3 := (hf.tr (hf2.mono (fun b k w => WR.w9 w))).tr h3.2.2.1
  have e2' : gi σ3 a 2 = nI g.2.2 := h3.1.2.2.1.1
  have back : ∀ v, v = oAsOf g sh x1 x2 x3 → P_X9_goTo a (gi σ3 a 2) σ3 (fun σ5 => post v σ5) := fun v hv => by
    subst hv
    refine h3.1.goTo (m := g.2.2) hg.2.1 (Nat.le_refl _) e2' (fun σ5 h5 hs5 hf5 => hp σ5 ?_ (hs3.tr hs5) (hf3.tr (hf5.mono (fun b k w => WR.w9 w))))
    have h5 : T9 σ5 a e (g.2.1 g.2.2, g.2) t sh rl sc := h5
    rw [hg.1] at h5
    exact h5
  obtain ⟨m1, m2, m3⟩ := h3.2.2.2.2.1
  have hcl := cut_le (gM (g.2.1 x1.toNatClampNeg) sh x2).1
  have ho : oAsOf g sh x1 x2 x3 = oLook (gM (g.2.1 x1.toNatClampNeg) sh x2).1 x3 := by unfold oAsOf; rw [hA]
  unfold oLook at ho
  refine ⟨fun z => ⟨h3.1.1.1, X9_in ?_⟩, fun z => ⟨h3.1.1.1, back _ ?_⟩⟩
  rotate_left
  · rw [if_pos z] at ho
    rw [ho]; exact m1
  rw [if_neg z] at ho
  have hc : (Int32.toInt64 (gi σ3 a 40) - 1).toInt = (cut (gM (g.2.1 x1.toNatClampNeg) sh x2).1 : Int) - 1 := by
    have h9 : (Int32.toInt64 (gi σ3 a 40)).toInt = (cut (gM (g.2.1 x1.toNatClampNeg) sh x2).1 : Int) := by
      have m1 : gi σ3 a 40 = nI (cut (gM (g.2.1 x1.toNatClampNeg) sh x2).1) := m1
      rw [m1, i64of, nIi (by omega)]
    have h8 : (1 : Int64).toInt = 1 := by decide
    rw [lsub (by rw [h9, h8]; omega) (by rw [h9, h8]; omega), h9, h8]
  rw [hc, i64of, show (0 : Int64).toInt = 0 by decide]
  unfold oAt at ho
  by_cases hx : 0 ≤ x3.toInt ∧ x3.toInt < cut (gM (g.2.1 x1.toNatClampNeg) sh x2).1
  · rw [if_pos hx] at ho
    rw [if_pos (by omega)]
    refine ⟨fun z => absurd z (by decide), fun _ => ⟨h3.1.1.1, e 41, h3.1.1.r 41 rfl, 600, h3.1.1.k 41 rfl, vin (by omega) (by omega), back _ ?_⟩⟩
    rw [ho]
    exact (m2 x3.toNatClampNeg (by
      show _ < cut (gM (g.2.1 x1.toNatClampNeg) sh x2).1
      rw [icl]; omega)).1
  · rw [if_neg hx] at ho
    rw [if_neg (by omega)]
    exact ⟨fun _ => ⟨h3.1.1.1, back _ ho.symm⟩, fun z => absurd rfl z⟩
end ASOF9
section CALLS
variable {σ : Hp} {a8 a9 : Nat} {K : Hp → Prop}
theorem call_asOf {x1 x2 x3 : Int32} (h : TIE a8 a9 σ) (hK : ∀ σ', TIE a8 a9 σ' → K σ') {Q8 : Int32 → Hp → Prop} (hQ : ∀ r1 σ1, (gk σ1 a9 = some (9, 0) ∧ P_X9_asOf a9 x1 x2 x3 σ1 (fun r2 σ2 => (r1 = r2 → K σ2) ∧ (¬ r1 = r2 → False))) → Q8 r1 σ1) : P_X8_asOf a8 x1 x2 x3 σ Q8 := by
  obtain ⟨c, e, s, g, t, sh, rl, sc, rfl, hT8, hT9, hdis, hg, hsh, hrl⟩ := h
  exact both (P9 := fun σ1 post => P_X9_asOf a9 x1 x2 x3 σ1 post) hT8 hT9 hdis hg hsh hrl (fun post hp => T8_asOf hT8 hg hsh hp) (fun σ1 post h9 hp => T9_asOf h9 hg hsh hp) hK hQ
end CALLS
