section MORE
variable {σ σ' σ0 : Hp} {a : Nat} {e : Nat → Nat} {c : Nat → Nat} {s : Nat} {g : G1} {t : G2} {sh : SHT} {rl : RLT} {sc : SCT}
theorem T9_row {tb v r0 r1 : Int32} {post : Int32 → Hp → Prop} (h : T9 σ a e g t sh rl sc) (hg : G1ok g) (hp : ∀ σ', T9 σ' a e (oRow g tb v r0 r1).2.1 t sh rl (sc.1, sc.2.1, (oRow g tb v r0 r1).2.2) → SK σ σ' → Fr (W9 a e) σ σ' → post (oRow g tb v r0 r1).1 σ') : P_X9_row a tb v r0 r1 σ post := by
  unfold P_X9_row
  have hT := h.thr 0
  have hs : SK σ (si σ a 0 0) := SK.wi _ _ _
  have hf : Fr (W9 a e) σ (si σ a 0 0) := Fr.rf.ob _ _
  generalize si σ a 0 0 = σ1 at hT hs hf ⊢
  refine ⟨h.1.1, X9_in ?_⟩
  rw [i64of, show (0 : Int64).toInt = 0 by decide, show (3 : Int64).toInt = 3 by decide]
  have bad1 : ¬ ((0 ≤ tb.toInt ∧ tb.toInt < 4) ∧ isV v) → gk σ1 a = some (9, 0) ∧ P_X9_told a (-1) σ1 (fun r2 σ2 => post r2 σ2) := fun hn => by
    have he : oRow g tb v r0 r1 = (-1, g, -1) := by unfold oRow; rw [if_pos hn]
    rw [he] at hp
    exact ⟨hT.1.1, T9_told hT hs hf hp⟩
  by_cases htb : 0 ≤ tb.toInt ∧ tb.toInt ≤ 3
  rotate_left
  · rw [if_neg htb]
    exact ⟨fun _ => bad1 (fun z => htb (by omega)), fun z => absurd rfl z⟩
  rw [if_pos htb]
  refine ⟨fun z => absurd z (by decide), fun _ => X9_isValue ?_⟩
  by_cases hV : isV v
  rotate_left
  · rw [if_neg hV]
    exact ⟨fun z => absurd rfl z, fun _ => bad1 (fun z => hV z.2)⟩
  rw [if_pos hV]
  have hB : (0 ≤ tb.toInt ∧ tb.toInt < 4) ∧ isV v := ⟨by omega, hV⟩
  refine ⟨fun _ => ?_, fun z => absurd z (by decide)⟩
  have bad2 : ¬ (refd g.1 r0 ∧ refd g.1 r1) → gk σ1 a = some (9, 0) ∧ P_X9_told a (-2) σ1 (fun r2 σ2 => post r2 σ2) := fun hn => by
    have he : oRow g tb v r0 r1 = (-2, g, -2) := by unfold oRow; rw [if_neg (fun z => z hB), if_pos hn]
    rw [he] at hp
    exact ⟨hT.1.1, T9_told hT hs hf hp⟩
  have j65 : refd g.1 r0 → refd g.1 r1 → J_X9_row_65 post a tb v r0 r1 σ1 := fun h0 h1 => by
    have h60 : g.1.1 ≤ 60 := hT.2.1.2.1
    unfold J_X9_row_65
    rw [hT.2.1.1]
    have bad5 : (g.1.1 = 60 ∨ g.2.2 = 300) → P_X9_told a (-5) σ1 (fun r2 σ2 => post r2 σ2) := fun hn => by
      have he : oRow g tb v r0 r1 = (-5, g, -5) := by unfold oRow; rw [if_neg (fun z => z hB), if_neg (fun z => z ⟨h0, h1⟩), if_pos hn]
      rw [he] at hp
      exact T9_told hT hs hf hp
    rw [ieq, nIi (by omega), show (60 : Int32).toInt = 60 by decide]
    refine ⟨hT.1.1, fun z => bad5 (Or.inl (by omega)), fun z => hT.mo (fun hm => ?_) (fun hm => bad5 (Or.inr hm))⟩
    have he : oRow g tb v r0 r1 = (nI g.1.1, tellG g g.1.1 (tb, v, r0, r1, 1), 0) := by unfold oRow; rw [if_neg (fun z => z hB), if_neg (fun z => z ⟨h0, h1⟩), if_neg (by omega)]
    rw [he] at hp
    refine hT.tell (i := g.1.1) hg hm (by omega) (fun _ => rfl) (fun z => absurd (by decide) z) (fun z => absurd z (by decide)) (fun σ2 hT2 hs2 hf2 => ?_)
    rw [apD_0] at hT2
    refine ⟨hT2.1.1, ?_⟩
    have hc : (tellG g g.1.1 (tb, v, r0, r1, 1)).1.1 = g.1.1 + 1 := by
      show (if g.1.1 < g.1.1 then g.1.1 else g.1.1 + 1) = _
      rw [if_neg (by omega)]
    rw [hT2.2.1.1, hc, show nI (g.1.1 + 1) - (1 : Int32) = nI g.1.1 from nI_pred _]
    refine T9_told hT2 (hs.tr hs2) (hf.tr hf2) (fun σ3 hT3 hs3 hf3 => hp σ3 ?_ hs3 hf3)
    rw [if_pos (by rw [nIi (by omega)]; omega)] at hT3
    exact hT3
  have j43 : refd g.1 r0 → J_X9_row_43 post a tb v r0 r1 σ1 := fun h0 => by
    unfold J_X9_row_43
    exact ⟨fun z => j65 h0 (Or.inl z), fun z => ⟨hT.1.1, hT.isRow (fun hst => ⟨fun _ => j65 h0 (Or.inr hst), fun z => absurd z (by decide)⟩) (fun hst => ⟨fun z => absurd rfl z, fun _ => bad2 (fun y => y.2.elim z hst)⟩)⟩⟩
  exact ⟨fun z => j43 (Or.inl z), fun z => ⟨hT.1.1, hT.isRow (fun hst => ⟨fun z => absurd z (by decide), fun _ => j43 (Or.inr hst)⟩) (fun hst => ⟨fun _ => bad2 (fun y => y.1.elim z hst), fun z => absurd rfl z⟩)⟩⟩
theorem T9_of {x w : Int32} {post : Int32 → Hp → Prop} (h : T9 σ a e g t sh rl sc) (hp : ∀ σ', T9 σ' a e g t sh rl sc → SK σ σ' → Fr (W9 a e) σ σ' → post (oOf g.1 x w) σ') : P_X9_of a x w σ post := by
  unfold P_X9_of
  have hT := h.thr 0
  have hp := hp _ hT (SK.wi _ _ _) (Fr.rf.ob _ _)
  have h60 : g.1.1 ≤ 60 := h.2.1.2.1
  have hc : (Int32.toInt64 (gi σ a 9) - 1).toInt = (g.1.1 : Int) - 1 := by
    have h9 : (Int32.toInt64 (gi σ a 9)).toInt = (g.1.1 : Int) := by rw [h.2.1.1, i64of, nIi (by omega)]
    have h8 : (1 : Int64).toInt = 1 := by decide
    rw [lsub (by rw [h9, h8]; omega) (by rw [h9, h8]; omega), h9, h8]
  generalize si σ a 0 0 = σ1 at hT hp ⊢
  refine ⟨h.1.1, X9_in ?_⟩
  rw [i64of, hc, show (0 : Int64).toInt = 0 by decide]
  unfold oOf at hp
  by_cases hx : 0 ≤ x.toInt ∧ x.toInt < g.1.1
  rotate_left
  · rw [if_neg (by omega)]
    rw [if_pos hx] at hp
    exact ⟨fun z => absurd rfl z, fun _ => hp⟩
  rw [if_pos (by omega)]
  rw [if_neg (fun z => z hx)] at hp
  have hi : x.toNatClampNeg < g.1.1 := by rw [icl]; omega
  obtain ⟨d1, d2, d3, d4, d5⟩ := hT.2.1.2.2 _ hi
  have hxn := nI_cl hx.1
  have m2 : (2 : Int32) * x = nI (2 * x.toNatClampNeg) := by rw [show (2 : Int32) = nI 2 from rfl, ← pk_mul, hxn]
  have m3 : nI (2 * x.toNatClampNeg) + (1 : Int32) = nI (2 * x.toNatClampNeg + 1) := nI_1 _
  refine ⟨fun _ => ?_, fun z => absurd z (by decide)⟩
  rw [m2, m3, clN (show 2 * x.toNatClampNeg < 2147483648 by omega), clN (show 2 * x.toNatClampNeg + 1 < 2147483648 by omega)]
  refine ⟨fun hh => ?_, fun hh => ⟨hT.1.1, e 10, hT.1.r 10 rfl, 60, hT.1.k 10 rfl, vin hx.1 (by omega), ?_⟩, fun hh => ⟨hT.1.1, e 11, hT.1.r 11 rfl, 60, hT.1.k 11 rfl, vin hx.1 (by omega), ?_⟩, fun hh => ⟨hT.1.1, e 12, hT.1.r 12 rfl, 120, hT.1.k 12 rfl, vinN (by omega) (by decide), ?_⟩, fun hh => ⟨hT.1.1, e 12, hT.1.r 12 rfl, 120, hT.1.k 12 rfl, vinN (by omega) (by decide), ?_⟩, fun hh => ⟨hT.1.1, e 13, hT.1.r 13 rfl, 60, hT.1.k 13 rfl, vin hx.1 (by omega), fun hz => ?_, fun hz => ?_⟩⟩
  · rwa [if_neg (by omega), if_neg (by omega), if_neg (by omega), if_neg (by omega), if_neg (by omega)] at hp
  · rw [d1]; rwa [if_pos hh] at hp
  · rw [d2]; rwa [if_neg (by omega), if_pos hh] at hp
  · rw [d3]; rwa [if_neg (by omega), if_neg (by omega), if_pos hh] at hp
  · rw [d4]; rwa [if_neg (by omega), if_neg (by omega), if_neg (by omega), if_pos hh] at hp
  · rw [d5] at hz; rwa [if_neg (by omega), if_neg (by omega), if_neg (by omega), if_neg (by omega), if_pos hh, if_pos hz] at hp
  · rw [d5] at hz; rwa [if_neg (by omega), if_neg (by omega), if_neg (by omega), if_neg (by omega), if_pos hh, if_neg hz] at hp
theorem T8_status {post : Int32 → Hp → Prop} (h : T8 σ c s g t sh rl sc) (hp : post sc.2.2 σ) : P_X8_status (c 0) σ post := ⟨h.1.k 0 (by decide) rfl, by rw [h.2.2.2.2.2.2.2.2.2]; exact hp⟩
theorem T8_fault {post : Int32 → Hp → Prop} (h : T8 σ c s g t sh rl sc) (hp : post sc.2.1 σ) : P_X8_fault (c 0) σ post := ⟨h.1.k 0 (by decide) rfl, by rw [h.2.2.2.2.2.2.2.2.1]; exact hp⟩
theorem T9_status {post : Int32 → Hp → Prop} (h : T9 σ a e g t sh rl sc) (hp : ∀ σ', T9 σ' a e g t sh rl sc → SK σ σ' → Fr (W9 a e) σ σ' → post sc.2.2 σ') : P_X9_status a σ post := ⟨h.1.1, by rw [h.2.2.2.2.2.2.2.2]; exact hp _ (h.thr 0) (SK.wi _ _ _) (Fr.rf.ob _ _)⟩
theorem T9_fault {post : Int32 → Hp → Prop} (h : T9 σ a e g t sh rl sc) (hp : ∀ σ', T9 σ' a e g t sh rl sc → SK σ σ' → Fr (W9 a e) σ σ' → post sc.2.1 σ') : P_X9_fault a σ post := ⟨h.1.1, by rw [h.2.2.2.2.2.2.2.1]; exact hp _ (h.thr 0) (SK.wi _ _ _) (Fr.rf.ob _ _)⟩
end MORE
