/-! count, holds -/
def cn (ρ : RM) : Nat → Nat
  | 0 => 0
  | k + 1 => cn ρ k + (if stn ρ (nI k) then 1 else 0)
theorem cn_ge {ρ : RM} (hρ : ρ.1 ≤ 60) : ∀ m, ρ.1 + m ≤ 60 → cn ρ (ρ.1 + m) = cn ρ ρ.1
  | 0, _ => rfl
  | m + 1, h => by
    show cn ρ (ρ.1 + m) + (if stn ρ (nI (ρ.1 + m)) then 1 else 0) = _
    rw [if_neg (fun z => by have := z.1.2; rw [nIi (by omega)] at this; omega), cn_ge hρ m (by omega)]
    rfl
theorem cn_60 {ρ : RM} (hρ : ρ.1 ≤ 60) : cn ρ 60 = cn ρ ρ.1 := by
  have := cn_ge hρ (60 - ρ.1) (by omega)
  rwa [show ρ.1 + (60 - ρ.1) = 60 by omega] at this
theorem cn_s1 {ρ : RM} {k : Nat} (h : stn ρ (nI k)) : cn ρ (k + 1) = cn ρ k + 1 := by
  show _ + _ = _
  rw [if_pos h]
theorem cn_s0 {ρ : RM} {k : Nat} (h : ¬ stn ρ (nI k)) : cn ρ (k + 1) = cn ρ k := by
  show _ + _ = _
  rw [if_neg h]; rfl
theorem X5_standingOnes {σ : Hp} {a ra : Nat} {ρ : RM} {post : Int32 → Hp → Prop} (h : RS σ a ra ρ) (hp : post (nI (cn ρ ρ.1)) σ) : P_X5_standingOnes a σ post := by
  unfold P_X5_standingOnes
  intro I hI
  have key : ∀ m k, k + m = 60 → I (nI (cn ρ k)) (nI k) σ := by
    intro m
    induction m with
    | zero =>
      intro k hk
      obtain rfl : k = 60 := by omega
      refine hI _ _ _ ⟨h.1, ra, h.2.1, 60, h.2.2.1, fun _ => ?_, fun z => absurd (by decide) z⟩
      rw [cn_60 h.2.2.2.2.1]; exact hp
    | succ m ih =>
      intro k hk
      refine hI _ _ _ ⟨h.1, ra, h.2.1, 60, h.2.2.1, fun z => ?_, fun _ => X5_standing h ?_⟩
      · rw [ile, ofn, nIi (by omega), nIi (by omega)] at z; omega
      · have hn := ih (k + 1) (by omega)
        rw [nI_1]
        by_cases hs : stn ρ (nI k)
        · obtain ⟨q, hq, -⟩ := h.row hs.1
          rw [cn_s1 hs] at hn
          rw [if_pos hs, hq, nI_1]
          exact ⟨fun z => (by cases z), fun _ _ => hn⟩
        · rw [cn_s0 hs] at hn
          rw [if_neg hs]
          exact ⟨fun _ => hn, fun b z => by cases z⟩
  exact key 60 0 rfl
def oCount (g : G1) (t : G2) (sh : SHT) (rl : RLT) (sc : SCT) (x : Int32) : Int32 := if x.toInt = 0 then nI (cn g.1 g.1.1) else if x.toInt = 1 then nI g.1.1 else if x.toInt = 2 then nI sh.1 else if x.toInt = 3 then nI rl.1 else if x.toInt = 4 then nI g.2.2 else if x.toInt = 5 then nI t.1 else if x.toInt = 6 then sc.1 else -1
/-- a paper's object, its array: as many marks, these -/
def PP (σ : Hp) (b m : Nat) (len : Nat) (mk : Nat → Int32) : Prop := gk σ b = some (1, 0) ∧ gr σ b 0 = some m ∧ gk σ m = some (10, 600) ∧ gi σ b 1 = nI len ∧ len ≤ 600 ∧ ∀ k, k < len → gi σ m k = mk k
def oAt (len : Nat) (mk : Nat → Int32) (x : Int32) : Int32 := if 0 ≤ x.toInt ∧ x.toInt < len then mk x.toNatClampNeg else -5000
theorem X1_at {σ : Hp} {b m len : Nat} {mk : Nat → Int32} {x : Int32} {post : Int32 → Hp → Prop} (h : PP σ b m len mk) (hp : post (oAt len mk x) σ) : P_X1_at b x σ post := by
  obtain ⟨h1, h2, h3, h4, h5, h6⟩ := h
  unfold P_X1_at
  unfold oAt at hp
  rw [h4, ilt, ile, nIi (show len < 2147483648 by omega), show (0 : Int32).toInt = 0 by decide]
  refine ⟨fun z => ?_, fun z => ⟨h1, fun y => ?_, fun y => ⟨m, h2, 600, h3, fun w => ?_, fun w => ?_⟩⟩⟩
  · rwa [if_neg (by omega)] at hp
  · rwa [if_neg (by omega)] at hp
  · rw [ile, ofn, nIi (by decide)] at w; omega
  · rw [if_pos (by omega)] at hp
    rw [h6 _ (by rw [icl]; omega)]
    exact ⟨vin (by omega) (by omega), hp⟩
theorem X1_length {σ : Hp} {b m len : Nat} {mk : Nat → Int32} {post : Int32 → Hp → Prop} (h : PP σ b m len mk) (hp : post (nI len) σ) : P_X1_length b σ post := by
  unfold P_X1_length
  rw [h.2.2.2.1]; exact ⟨h.1, hp⟩
abbrev isRd (rl : RLT) (x : Int32) : Prop := 0 ≤ x.toInt ∧ x.toInt < rl.1
def oHolds (rl : RLT) (x1 x2 : Int32) : Int32 := if isRd rl x1 then (if x2 = -1 then nI (rl.2 x1.toNatClampNeg).2.1 else oAt (rl.2 x1.toNatClampNeg).2.1 (rl.2 x1.toNatClampNeg).2.2.1 x2) else -5000
section COUNT8
variable {σ σ' σ0 : Hp} {c : Nat → Nat} {s : Nat} {g : G1} {t : G2} {sh : SHT} {rl : RLT} {sc : SCT}
theorem T8_count {x : Int32} {post : Int32 → Hp → Prop} (h : T8 σ c s g t sh rl sc) (hp : post (oCount g t sh rl sc x) σ) : P_X8_count (c 0) x σ post := by
  unfold P_X8_count
  unfold oCount at hp
  have k0 : gk σ (c 0) = some (8, 0) := h.1.k 0 (by decide) rfl
  have hs := h.1.2.2.2.1.1
  refine ⟨fun z => ?_, fun z => ⟨k0, c 1, h.1.r 0 0 1 (by decide), h.1.k 1 (by decide) rfl, X5_standingOnes h.2.1 ?_⟩, fun z => ⟨k0, c 1, h.1.r 0 0 1 (by decide), h.1.k 1 (by decide) rfl, X5_known h ?_⟩, fun z => ⟨k0, c s, h.1.2.2.2.1.2.1, ?_, ?_, ?_⟩, fun z => ⟨k0, ?_⟩, fun z => ⟨k0, c 3, h.1.r 0 1 3 (by decide), h.1.k 3 (by decide) rfl, h.1.k 3 (by decide) rfl, ?_⟩, fun z => X7_len h ?_, fun z => ⟨k0, ?_⟩⟩
  · rwa [if_neg (by omega), if_neg (by omega), if_neg (by omega), if_neg (by omega), if_neg (by omega), if_neg (by omega), if_neg (by omega)] at hp
  · rwa [if_pos z] at hp
  · rwa [if_neg (by omega), if_pos z] at hp
  · rcases hs with rfl | rfl
    · exact h.1.k 8 (by decide) rfl
    · exact h.1.k 14 (by decide) rfl
  · rcases hs with rfl | rfl
    · exact h.1.k 8 (by decide) rfl
    · exact h.1.k 14 (by decide) rfl
  · rw [h.2.2.2.2.1.1]
    rwa [if_neg (by omega), if_neg (by omega), if_pos z] at hp
  · rw [h.2.2.2.2.2.2.1]
    rwa [if_neg (by omega), if_neg (by omega), if_neg (by omega), if_pos z] at hp
  · rw [h.2.2.1.2.2.2.1]
    rwa [if_neg (by omega), if_neg (by omega), if_neg (by omega), if_neg (by omega), if_pos z] at hp
  · rwa [if_neg (by omega), if_neg (by omega), if_neg (by omega), if_neg (by omega), if_neg (by omega), if_pos z] at hp
  · rw [h.2.2.2.2.2.2.2.1]
    rwa [if_neg (by omega), if_neg (by omega), if_neg (by omega), if_neg (by omega), if_neg (by omega), if_neg (by omega), if_pos z] at hp
theorem T8.pap (h : T8 σ c s g t sh rl sc) {n : Nat} (hn : RLok n rl) {j : Nat} (hj : j < rl.1) : PP σ (c (27 + 3 * j)) (c (28 + 3 * j)) (rl.2 j).2.1 (rl.2 j).2.2.1 := by
  have hk := k8_rd hj
  obtain ⟨r1, r2, r3⟩ := h.1.2.2.2.2.1 j hj
  obtain ⟨q1, q2, q3⟩ := h.2.2.2.2.2.1 j hj
  exact ⟨h.1.1 _ _ hk.2.1, r3, h.1.1 _ _ hk.2.2, q2, (hn.2 j hj).2.1, q3⟩
theorem X8_readerAt {x : Int32} {post : Option Nat → Hp → Prop} (h : T8 σ c s g t sh rl sc) (hp : post (if isRd rl x then some (c (26 + 3 * x.toNatClampNeg)) else none) σ) : P_X8_readerAt (c 0) x σ post := by
  unfold P_X8_readerAt
  have h10 : rl.1 ≤ 10 := h.1.2.2.2.2.2.2
  rw [ilt, show (0 : Int32).toInt = 0 by decide]
  refine ⟨fun z => ?_, fun z => ⟨h.1.k 0 (by decide) rfl, c 7, h.1.r 0 3 7 (by decide), 10, h.1.k 7 (by decide) rfl, fun y => ?_, fun y => ?_⟩⟩
  · rwa [if_neg (fun w => by have := w.1; omega)] at hp
  · rw [ile, ofn, nIi (by decide)] at y
    rwa [if_neg (fun w => by have := w.2; omega)] at hp
  · rw [ile, ofn, nIi (by decide)] at y
    refine ⟨vin (by omega) (by omega), ?_⟩
    by_cases hr : isRd rl x
    · rw [if_pos hr] at hp
      rw [(h.1.2.2.2.2.1 _ (show x.toNatClampNeg < rl.1 by rw [icl]; have := hr.2; omega)).1]
      exact hp
    · rw [if_neg hr] at hp
      rw [h.1.2.2.2.2.2.1 _ (by rw [icl]; have : ¬ (0 ≤ x.toInt ∧ x.toInt < rl.1) := hr; omega) (by rw [icl]; omega)]
      exact hp
theorem T8_holds {n : Nat} {x1 x2 : Int32} {post : Int32 → Hp → Prop} (h : T8 σ c s g t sh rl sc) (hn : RLok n rl) (hp : post (oHolds rl x1 x2) σ) : P_X8_holds (c 0) x1 x2 σ post := by
  unfold P_X8_holds
  unfold oHolds at hp
  refine ⟨h.1.k 0 (by decide) rfl, X8_readerAt h ?_⟩
  by_cases hr : isRd rl x1
  · rw [if_pos hr] at hp
    rw [if_pos hr]
    have hj : x1.toNatClampNeg < rl.1 := by rw [icl]; have := hr.2; omega
    have hk := k8_rd hj
    have hP := h.pap hn hj
    obtain ⟨r1, r2, r3⟩ := h.1.2.2.2.2.1 _ hj
    refine ⟨fun z => (by cases z), fun b hb => ?_⟩
    cases hb
    refine ⟨fun z => ⟨h.1.1 _ _ hk.1, _, r2, hP.1, X1_at hP ?_⟩, fun z => ⟨h.1.1 _ _ hk.1, _, r2, hP.1, X1_length hP ?_⟩⟩
    · rwa [if_neg z] at hp
    · rwa [if_pos z] at hp
  · rw [if_neg hr] at hp
    rw [if_neg hr]
    exact ⟨fun _ => hp, fun b z => by cases z⟩
end COUNT8
section COUNT9
variable {σ σ' σ0 : Hp} {a : Nat} {e : Nat → Nat} {g : G1} {t : G2} {sh : SHT} {rl : RLT} {sc : SCT}
theorem T9_count {x : Int32} {post : Int32 → Hp → Prop} (h : T9 σ a e g t sh rl sc) (hp : ∀ σ', T9 σ' a e g t sh rl sc → SK σ σ' → Fr (W9 a e) σ σ' → post (oCount g t sh rl sc x) σ') : P_X9_count a x σ post := by
  unfold P_X9_count
  have hT := h.thr 0
  have hs : SK σ (si σ a 0 0) := SK.wi _ _ _
  have hf : Fr (W9 a e) σ (si σ a 0 0) := Fr.rf.ob _ _
  replace hp := hp _ hT hs hf
  unfold oCount at hp
  refine ⟨h.1.1, fun z => ?_, fun z => ?_, fun z => ?_, fun z => ?_, fun z => ?_, fun z => ?_, fun z => ?_, fun z => ?_⟩
  · rwa [if_neg (by omega), if_neg (by omega), if_neg (by omega), if_neg (by omega), if_neg (by omega), if_neg (by omega), if_neg (by omega)] at hp
  · rw [if_pos z] at hp
    generalize si σ a 0 0 = σ1 at hT hp ⊢
    intro I hI
    obtain ⟨q1, q2, q3⟩ := hT.2.1
    have key : ∀ m k, k + m = g.1.1 → I (nI (cn g.1 k)) (nI k) σ1 := by
      intro m
      induction m with
      | zero =>
        intro k hk
        obtain rfl : k = g.1.1 := by omega
        refine hI _ _ _ ⟨hT.1.1, fun _ => hp, fun z => ?_⟩
        rw [q1] at z
        exact absurd (nI_le (Nat.le_refl _) (by omega)) z
      | succ m ih =>
        intro k hk
        have hn := ih (k + 1) (by omega)
        have d5 := (q3 k (by omega)).2.2.2.2
        refine hI _ _ _ ⟨hT.1.1, fun z => ?_, fun _ => ⟨e 13, hT.1.r 13 rfl, 60, hT.1.k 13 rfl, vinN (by omega) (by decide), fun z => ?_, fun z => ?_⟩⟩
        · rw [q1, ile, nIi (by omega), nIi (by omega)] at z; omega
        · rw [clN (by omega), d5] at z
          rw [cn_s0 (fun w => by have := w.2; rw [clN (by omega)] at this; exact this z)] at hn
          rw [nI_1, show nI (cn g.1 k) + (0 : Int32) = nI (cn g.1 k) from nI_add _ 0]
          exact hn
        · rw [clN (by omega), d5] at z
          rw [cn_s1 ⟨by rw [nIi (by omega)]; omega, by rw [clN (by omega)]; exact z⟩] at hn
          rw [nI_1, nI_1]
          exact hn
    exact key g.1.1 0 (by omega)
  · rw [h.2.1.1]
    rwa [if_neg (by omega), if_pos z] at hp
  · rw [h.2.2.2.2.1.1]
    rwa [if_neg (by omega), if_neg (by omega), if_pos z] at hp
  · rw [h.2.2.2.2.2.1.1]
    rwa [if_neg (by omega), if_neg (by omega), if_neg (by omega), if_pos z] at hp
  · rw [h.2.2.1.1]
    rwa [if_neg (by omega), if_neg (by omega), if_neg (by omega), if_neg (by omega), if_pos z] at hp
  · rw [h.2.2.2.1.1]
    rwa [if_neg (by omega), if_neg (by omega), if_neg (by omega), if_neg (by omega), if_neg (by omega), if_pos z] at hp
  · rw [h.2.2.2.2.2.2.1]
    rwa [if_neg (by omega), if_neg (by omega), if_neg (by omega), if_neg (by omega), if_neg (by omega), if_neg (by omega), if_pos z] at hp
theorem X9_isReader {x : Int32} {post : Int32 → Hp → Prop} (h : T9 σ a e g t sh rl sc) (h10 : rl.1 ≤ 10) (hp : post (if isRd rl x then 1 else 0) σ) : P_X9_isReader a x σ post := by
  unfold P_X9_isReader
  refine ⟨h.1.1, X9_in ?_⟩
  have hc : (Int32.toInt64 (gi σ a 48) - 1).toInt = (rl.1 : Int) - 1 := by
    have h9 : (Int32.toInt64 (gi σ a 48)).toInt = (rl.1 : Int) := by rw [h.2.2.2.2.2.1.1, i64of, nIi (by omega)]
    have h8 : (1 : Int64).toInt = 1 := by decide
    rw [lsub (by rw [h9, h8]; omega) (by rw [h9, h8]; omega), h9, h8]
  rw [hc, i64of, show (0 : Int64).toInt = 0 by decide]
  by_cases hr : isRd rl x
  · rw [if_pos hr] at hp
    have hr : 0 ≤ x.toInt ∧ x.toInt < rl.1 := hr
    rw [if_pos (by omega)]
    exact ⟨Or.inr rfl, hp⟩
  · rw [if_neg hr] at hp
    have hr : ¬ (0 ≤ x.toInt ∧ x.toInt < rl.1) := hr
    rw [if_neg (by omega)]
    exact ⟨Or.inl rfl, hp⟩
theorem T9_holds {n : Nat} {x1 x2 : Int32} {post : Int32 → Hp → Prop} (h : T9 σ a e g t sh rl sc) (hn : RLok n rl) (hp : ∀ σ', T9 σ' a e g t sh rl sc → SK σ σ' → Fr (W9 a e) σ σ' → post (oHolds rl x1 x2) σ') : P_X9_holds a x1 x2 σ post := by
  unfold P_X9_holds
  have hT := h.thr 0
  have hs : SK σ (si σ a 0 0) := SK.wi _ _ _
  have hf : Fr (W9 a e) σ (si σ a 0 0) := Fr.rf.ob _ _
  replace hp := hp _ hT hs hf
  refine ⟨h.1.1, ?_⟩
  generalize si σ a 0 0 = σ1 at hT hp ⊢
  have h10 := hn.1
  refine X9_isReader hT h10 ?_
  unfold oHolds at hp
  by_cases hr : isRd rl x1
  rotate_left
  · rw [if_neg hr] at hp
    rw [if_neg hr]
    exact ⟨fun z => absurd rfl z, fun _ => hp⟩
  rw [if_pos hr] at hp
  rw [if_pos hr]
  have hr' : 0 ≤ x1.toInt ∧ x1.toInt < rl.1 := hr
  have hj : x1.toNatClampNeg < rl.1 := by rw [icl]; omega
  obtain ⟨j1, j2, j3⟩ := hT.2.2.2.2.2.1.2.1 _ hj
  have h6 := (hn.2 _ hj).2.1
  refine ⟨fun _ => ⟨fun z => ⟨hT.1.1, e 50, hT.1.r 50 rfl, 10, hT.1.k 50 rfl, vin (by omega) (by omega), ?_⟩, fun z => ⟨hT.1.1, e 50, hT.1.r 50 rfl, 10, hT.1.k 50 rfl, vin (by omega) (by omega), ?_⟩⟩, fun z => absurd z (by decide)⟩
  · rw [if_neg z] at hp
    refine X9_in ?_
    rw [j2]
    have hc : (Int32.toInt64 (nI (rl.2 x1.toNatClampNeg).2.1) - 1).toInt = ((rl.2 x1.toNatClampNeg).2.1 : Int) - 1 := by
      have h9 : (Int32.toInt64 (nI (rl.2 x1.toNatClampNeg).2.1)).toInt = ((rl.2 x1.toNatClampNeg).2.1 : Int) := by rw [i64of, nIi (by omega)]
      have h8 : (1 : Int64).toInt = 1 := by decide
      rw [lsub (by rw [h9, h8]; omega) (by rw [h9, h8]; omega), h9, h8]
    rw [hc, i64of, show (0 : Int64).toInt = 0 by decide]
    unfold oAt at hp
    by_cases hx : 0 ≤ x2.toInt ∧ x2.toInt < (rl.2 x1.toNatClampNeg).2.1
    · rw [if_pos hx] at hp
      rw [if_pos (by omega)]
      have m2 : ((600 : Int32) * x1) + x2 = nI (600 * x1.toNatClampNeg + x2.toNatClampNeg) := by
        rw [← nI_add, ← pk_mul, nI_cl hr'.1, nI_cl hx.1]; rfl
      have hk2 : x2.toNatClampNeg < (rl.2 x1.toNatClampNeg).2.1 := by rw [icl]; omega
      refine ⟨fun z => absurd z (by decide), fun _ => ⟨hT.1.1, e 51, hT.1.r 51 rfl, 6000, hT.1.k 51 rfl, ?_, ?_⟩⟩
      · rw [m2]; exact vinN (by omega) (by decide)
      · rw [m2, clN (by omega), (j3 _ hk2).1]; exact hp
    · rw [if_neg hx] at hp
      rw [if_neg (by omega)]
      exact ⟨fun _ => hp, fun z => absurd rfl z⟩
  · rw [if_pos z] at hp
    rw [j2]; exact hp
end COUNT9
section CALLS
variable {σ : Hp} {a8 a9 : Nat} {K : Hp → Prop}
theorem call_count {x1 : Int32} (h : TIE a8 a9 σ) (hK : ∀ σ', TIE a8 a9 σ' → K σ') {Q8 : Int32 → Hp → Prop} (hQ : ∀ r1 σ1, (gk σ1 a9 = some (9, 0) ∧ P_X9_count a9 x1 σ1 (fun r2 σ2 => (r1 = r2 → K σ2) ∧ (¬ r1 = r2 → False))) → Q8 r1 σ1) : P_X8_count a8 x1 σ Q8 := by
  obtain ⟨c, e, s, g, t, sh, rl, sc, rfl, hT8, hT9, hdis, hg, hsh, hrl⟩ := h
  exact both (P9 := fun σ1 post => P_X9_count a9 x1 σ1 post) hT8 hT9 hdis hg hsh hrl (fun post hp => T8_count hT8 (hp _ hT8 Ag.rf)) (fun σ1 post h9 hp => T9_count h9 hp) hK hQ
theorem call_holds {x1 x2 : Int32} (h : TIE a8 a9 σ) (hK : ∀ σ', TIE a8 a9 σ' → K σ') {Q8 : Int32 → Hp → Prop} (hQ : ∀ r1 σ1, (gk σ1 a9 = some (9, 0) ∧ P_X9_holds a9 x1 x2 σ1 (fun r2 σ2 => (r1 = r2 → K σ2) ∧ (¬ r1 = r2 → False))) → Q8 r1 σ1) : P_X8_holds a8 x1 x2 σ Q8 := by
  obtain ⟨c, e, s, g, t, sh, rl, sc, rfl, hT8, hT9, hdis, hg, hsh, hrl⟩ := h
  exact both (P9 := fun σ1 post => P_X9_holds a9 x1 x2 σ1 post) hT8 hT9 hdis hg hsh hrl (fun post hp => T8_holds hT8 hrl (hp _ hT8 Ag.rf)) (fun σ1 post h9 hp => T9_holds h9 hrl hp) hK hQ
end CALLS
