/-! the class: rows told -/
theorem RW.to {σ σ' : Hp} {q i : Nat} {d : RD} (h : RW σ q i d) (hk : gk σ' q = gk σ q) (hi : ∀ k, gi σ' q k = gi σ q k) : RW σ' q i d := by
  unfold RW
  rw [hk, hi, hi, hi, hi, hi, hi]
  exact h
theorem setR_1 (ρ : RM) (i : Nat) (d : RD) : (setR ρ i d).1 = if i < ρ.1 then ρ.1 else i + 1 := rfl
theorem setR_2 (ρ : RM) (i : Nat) (d : RD) (j : Nat) : (setR ρ i d).2 j = if j = i then d else ρ.2 j := rfl
theorem RS.put {σ : Hp} {a ra q i : Nat} {ρ : RM} {d : RD} (h : RS σ a ra ρ) (hw : RW σ q i d) (hi : i ≤ ρ.1) (hi60 : i < 60) : RS (si (sr σ ra i (some q)) a 1 (nI (setR ρ i d).1)) a ra (setR ρ i d) := by
  obtain ⟨h1, h2, h3, h4, h5, h6, h7⟩ := h
  have hne : a ≠ ra := ne_kd h1 h3 (by decide)
  have hrow : ∀ {q' i' d'}, RW σ q' i' d' → RW (si (sr σ ra i (some q)) a 1 (nI (setR ρ i d).1)) q' i' d' := fun {q' i' d'} hr => hr.to rfl (fun k => gi_sa (ne_kd hr.1 h1 (by decide)))
  refine ⟨h1, ?_, h3, gi_ss, ?_, fun j hj => ?_, fun j hj hj60 => ?_⟩
  · rw [gr_si, gr_sa hne]; exact h2
  · rw [setR_1]; split <;> omega
  · rw [gr_si, gr_sr, setR_2]
    by_cases hji : j = i
    · subst hji
      exact ⟨q, by simp, by simpa using hrow hw⟩
    · rw [if_neg (by simp [hji]), if_neg hji]
      have : j < ρ.1 := by rw [setR_1] at hj; split at hj <;> omega
      obtain ⟨q', hq', hr⟩ := h6 j this
      exact ⟨q', hq', hrow hr⟩
  · rw [gr_si, gr_sr]
    have hji : j ≠ i := by rintro rfl; rw [setR_1] at hj; split at hj <;> omega
    rw [if_neg (by simp [hji])]
    exact h7 j (by rw [setR_1] at hj; split at hj <;> omega) hj60
theorem X5_put {σ : Hp} {a ra q i : Nat} {ρ : RM} {d : RD} {post : Hp → Prop} (h : RS σ a ra ρ) (hw : RW σ q i d) (hi60 : i < 60) (hp : post (si (sr σ ra i (some q)) a 1 (nI (setR ρ i d).1))) : P_X5_put a q σ post := by
  obtain ⟨h1, h2, h3, h4, h5, h6, h7⟩ := h
  unfold P_X5_put
  refine ⟨hw.1, ?_⟩
  rw [hw.2.1]
  refine ⟨fun hx => absurd hx (nI_pos (by omega)), fun _ => ⟨h1, ra, h2, 60, h3, fun hx => ⟨vinN hi60 (by decide), ?_⟩, fun hx => ?_⟩⟩
  · rw [clN (by omega), h4, show nI i + (1 : Int32) = nI (i + 1) from nI_1 i]
    rw [setR_1] at hp
    by_cases hlt : i < ρ.1
    · rw [if_pos hlt] at hp
      rwa [if_neg (by rw [ilt, nIi (by omega), nIi (by omega)]; omega)]
    · rw [if_neg hlt] at hp
      rwa [if_pos (by rw [ilt, nIi (by omega), nIi (by omega)]; omega)]
  · rw [ilt, ofn, nIi (by omega), nIi (by omega)] at hx
    omega
/-- the History object a with its array ra: the row of each moment, and the rows behind each -/
def HS (σ : Hp) (a ra : Nat) (hs : Nat → RM) (mo : Nat) : Prop := gk σ a = some (0, 0) ∧ gr σ a 0 = some ra ∧ gk σ ra = some (13, 300) ∧ gi σ a 1 = nI mo ∧ mo ≤ 300 ∧ ∀ k, k < mo → ∃ q i d, gr σ ra k = some q ∧ RW σ q i d ∧ i ≤ (hs k).1 ∧ i < 60 ∧ hs (k + 1) = setR (hs k) i d
theorem X0_isFull {σ : Hp} {a ra mo : Nat} {hs : Nat → RM} {post : Int32 → Hp → Prop} (h : HS σ a ra hs mo) (hp : post (if mo = 300 then 1 else 0) σ) : P_X0_isFull a σ post := by
  obtain ⟨h1, h2, h3, h4, h5, h6⟩ := h
  unfold P_X0_isFull
  rw [h4]
  refine ⟨h1, ra, h2, 300, h3, fun hx => ?_, fun hx => ?_⟩
  · rw [ilt, ofn, nIi (by omega), nIi (by omega)] at hx
    rwa [if_neg (by omega)] at hp
  · rw [ilt, ofn, nIi (by omega), nIi (by omega)] at hx
    rwa [if_pos (by omega)] at hp
theorem X0_add {σ : Hp} {a ra q i mo : Nat} {hs : Nat → RM} {d : RD} {post : Hp → Prop} (h : HS σ a ra hs mo) (hw : RW σ q i d) (hm : mo < 300) (hp : post (si (sr σ ra mo (some q)) a 1 (nI (mo + 1)))) : P_X0_add a q σ post := by
  obtain ⟨h1, h2, h3, h4, h5, h6⟩ := h
  unfold P_X0_add
  rw [h4]
  refine ⟨h1, fun hx => absurd hx (nI_pos (by omega)), fun _ => ⟨ra, h2, 300, h3, fun hx => ⟨vinN hm (by decide), hw.1, ?_⟩, fun hx => ?_⟩⟩
  · rw [clN (by omega), show nI mo + (1 : Int32) = nI (mo + 1) from nI_1 mo]
    exact hp
  · rw [ilt, ofn, nIi (by omega), nIi (by omega)] at hx
    omega
theorem HS.add {σ : Hp} {a ra q i mo : Nat} {hs : Nat → RM} {d : RD} (h : HS σ a ra hs mo) (hw : RW σ q i d) (hm : mo < 300) (hi : i ≤ (hs mo).1) (hi60 : i < 60) : HS (si (sr σ ra mo (some q)) a 1 (nI (mo + 1))) a ra (fun k => if k = mo + 1 then setR (hs mo) i d else hs k) (mo + 1) := by
  obtain ⟨h1, h2, h3, h4, h5, h6⟩ := h
  have hne : a ≠ ra := ne_kd h1 h3 (by decide)
  have hrow : ∀ {q' i' d'}, RW σ q' i' d' → RW (si (sr σ ra mo (some q)) a 1 (nI (mo + 1))) q' i' d' := fun {q' i' d'} hr => hr.to rfl (fun k => gi_sa (ne_kd hr.1 h1 (by decide)))
  refine ⟨h1, ?_, h3, gi_ss, by omega, fun k hk => ?_⟩
  · rw [gr_si, gr_sa hne]; exact h2
  · rw [gr_si, gr_sr]
    by_cases hkm : k = mo
    · subst hkm
      exact ⟨q, i, d, by simp, hrow hw, by simpa using hi, hi60, by simp⟩
    · obtain ⟨q', i', d', e1, e2, e3, e4, e5⟩ := h6 k (by omega)
      refine ⟨q', i', d', by rw [if_neg (by simp [hkm])]; exact e1, hrow e2, ?_, e4, ?_⟩
      · show i' ≤ (if k = mo + 1 then setR (hs mo) i d else hs k).1
        rw [if_neg (by omega)]; exact e3
      · show (if k + 1 = mo + 1 then setR (hs mo) i d else hs (k + 1)) = setR (if k = mo + 1 then setR (hs mo) i d else hs k) i' d'
        rw [if_neg (by omega), if_neg (by omega)]; exact e5
/-- the cells that are there keep their kinds; ints and longs of those outside S stay, references of those outside T -/
def Ag (S T : Nat → Prop) (σ σ' : Hp) : Prop := ∀ b, gk σ b ≠ none → gk σ' b = gk σ b ∧ (¬ S b → ∀ k, gi σ' b k = gi σ b k ∧ gl σ' b k = gl σ b k) ∧ (¬ T b → ∀ k, gr σ' b k = gr σ b k)
theorem Ag.rf {S T : Nat → Prop} {σ : Hp} : Ag S T σ σ := fun _ _ => ⟨rfl, fun _ _ => ⟨rfl, rfl⟩, fun _ _ => rfl⟩
theorem Ag.tr {S T : Nat → Prop} {σ σ' σ'' : Hp} (h : Ag S T σ σ') (h' : Ag S T σ' σ'') : Ag S T σ σ'' := fun b hb => by
  have h1 := h b hb
  have h2 := h' b (by rw [h1.1]; exact hb)
  exact ⟨h2.1.trans h1.1, fun hs k => ⟨(h2.2.1 hs k).1.trans (h1.2.1 hs k).1, (h2.2.1 hs k).2.trans (h1.2.1 hs k).2⟩, fun hs k => (h2.2.2 hs k).trans (h1.2.2 hs k)⟩
theorem Ag.mono {S S' T T' : Nat → Prop} {σ σ' : Hp} (h : Ag S T σ σ') (hs : ∀ b, S b → S' b) (ht : ∀ b, T b → T' b) : Ag S' T' σ σ' := fun b hb => ⟨(h b hb).1, fun q => (h b hb).2.1 (fun z => q (hs b z)), fun q => (h b hb).2.2 (fun z => q (ht b z))⟩
theorem Ag.wi {S T : Nat → Prop} {σ σ' : Hp} (h : Ag S T σ σ') {a k : Nat} (v : Int32) (ha : S a ∨ gk σ a = none) : Ag S T σ (si σ' a k v) := fun b hb => ⟨(h b hb).1, fun q j => ⟨by rw [gi_sa (fun z => ha.elim (fun y => q (by rw [z]; exact y)) (fun y => hb (by rw [z]; exact y)))]; exact ((h b hb).2.1 q j).1, ((h b hb).2.1 q j).2⟩, (h b hb).2.2⟩
theorem Ag.wl {S T : Nat → Prop} {σ σ' : Hp} (h : Ag S T σ σ') {a k : Nat} (v : Int64) (ha : S a ∨ gk σ a = none) : Ag S T σ (sl σ' a k v) := fun b hb => ⟨(h b hb).1, fun q j => ⟨((h b hb).2.1 q j).1, by rw [gl_sa (fun z => ha.elim (fun y => q (by rw [z]; exact y)) (fun y => hb (by rw [z]; exact y)))]; exact ((h b hb).2.1 q j).2⟩, (h b hb).2.2⟩
theorem Ag.wr {S T : Nat → Prop} {σ σ' : Hp} (h : Ag S T σ σ') {a k : Nat} (v : Option Nat) (ha : T a ∨ gk σ a = none) : Ag S T σ (sr σ' a k v) := fun b hb => ⟨(h b hb).1, (h b hb).2.1, fun q j => by rw [gr_sa (fun z => ha.elim (fun y => q (by rw [z]; exact y)) (fun y => hb (by rw [z]; exact y)))]; exact (h b hb).2.2 q j⟩
theorem Ag.new {S T : Nat → Prop} {σ σ' : Hp} (h : Ag S T σ σ') {q t n : Nat} (hq : gk σ' q = none) : Ag S T σ (nw σ' q t n) := fun b hb => by
  have h1 := h b hb
  have hne : b ≠ q := fun z => hb (by rw [← h1.1, z]; exact hq)
  exact ⟨by rw [gk_nw, if_neg hne]; exact h1.1, fun hs k => ⟨by rw [gi_nw, if_neg hne]; exact (h1.2.1 hs k).1, by rw [gl_nw, if_neg hne]; exact (h1.2.1 hs k).2⟩, fun ht k => by rw [gr_nw, if_neg hne]; exact h1.2.2 ht k⟩
/-- what was not there at first, but is now, was made: it is none of the old cells -/
theorem Ag.gone {S T : Nat → Prop} {σ σ' : Hp} (h : Ag S T σ σ') {q : Nat} (hq : gk σ' q = none) : gk σ q = none := Classical.byContradiction fun hb => hb (by rw [← (h q hb).1]; exact hq)
theorem RW.ag {S T : Nat → Prop} {σ σ' : Hp} {q i : Nat} {d : RD} (h : RW σ q i d) (hA : Ag S T σ σ') (hS : ¬ S q) : RW σ' q i d := by
  have h1 := hA q (by rw [h.1]; exact fun z => by cases z)
  exact h.to h1.1 (fun k => (h1.2.1 hS k).1)
theorem RS.ag {S T : Nat → Prop} {σ σ' : Hp} {a ra : Nat} {ρ : RM} (h : RS σ a ra ρ) (hA : Ag S T σ σ') (ha : ¬ S a) (hat : ¬ T a) (hra : ¬ T ra) (hS : ∀ q, gk σ q = some (4, 0) → ¬ S q) : RS σ' a ra ρ := by
  obtain ⟨h1, h2, h3, h4, h5, h6, h7⟩ := h
  have hAa := hA a (by rw [h1]; exact fun z => by cases z)
  have hAr := hA ra (by rw [h3]; exact fun z => by cases z)
  refine ⟨by rw [hAa.1]; exact h1, by rw [hAa.2.2 hat]; exact h2, by rw [hAr.1]; exact h3, by rw [(hAa.2.1 ha 1).1]; exact h4, h5, fun i hi => ?_, fun i hi hi60 => ?_⟩
  · obtain ⟨q, e1, e2⟩ := h6 i hi
    exact ⟨q, by rw [hAr.2.2 hra]; exact e1, e2.ag hA (hS q e2.1)⟩
  · rw [hAr.2.2 hra]; exact h7 i hi hi60
theorem HS.ag {S T : Nat → Prop} {σ σ' : Hp} {a ra mo : Nat} {hs : Nat → RM} (h : HS σ a ra hs mo) (hA : Ag S T σ σ') (ha : ¬ S a) (hat : ¬ T a) (hra : ¬ T ra) (hS : ∀ q, gk σ q = some (4, 0) → ¬ S q) : HS σ' a ra hs mo := by
  obtain ⟨h1, h2, h3, h4, h5, h6⟩ := h
  have hAa := hA a (by rw [h1]; exact fun z => by cases z)
  have hAr := hA ra (by rw [h3]; exact fun z => by cases z)
  refine ⟨by rw [hAa.1]; exact h1, by rw [hAa.2.2 hat]; exact h2, by rw [hAr.1]; exact h3, by rw [(hAa.2.1 ha 1).1]; exact h4, h5, fun k hk => ?_⟩
  obtain ⟨q, i, d, e1, e2, e3⟩ := h6 k hk
  exact ⟨q, i, d, by rw [hAr.2.2 hra]; exact e1, e2.ag hA (hS q e2.1), e3⟩
