/-! what always holds of the mathematical state, and the tie of the two objects -/
/-- shapes that can be: each item within a part of the shape, no more than six braces -/
def SHok (sh : SHT) : Prop := ∃ lv : Nat → Nat, lv 0 = 0 ∧ sh.1 ≤ 20 ∧ sh.2.2.1 ≤ 100 ∧ (∀ p, p < sh.1 → 0 ≤ (sh.2.1 p).toInt ∧ (sh.2.1 p).toInt < 4) ∧ ∀ i, i < sh.2.2.1 → (sh.2.2.2 i).1 < sh.1 ∧ (sh.2.2.2 i).2.1 ≤ 2 ∧ (sh.2.2.2 i).2.2.1 ≤ 1 ∧ lv (sh.2.2.2 i).1 ≤ 5 ∧ ((sh.2.2.2 i).2.1 ≠ 0 → (sh.2.2.2 i).1 < (sh.2.2.2 i).2.2.2 ∧ (sh.2.2.2 i).2.2.2 < sh.1 ∧ lv (sh.2.2.2 i).2.2.2 = lv (sh.2.2.2 i).1 + 1)
/-- the row whose beginning stands ahead of mark k without its end between them -/
def arnd (mk : Nat → Int32) : Nat → Nat → Int32
  | 0, _ => -1
  | k + 1, en => if mk k = 30000 then arnd mk k (en + 1) else if 10000 ≤ (mk k).toInt ∧ (mk k).toInt < 20000 then (match en with | 0 => mk k - 10000 | m + 1 => arnd mk k m) else arnd mk k en
def RLok (n : Nat) (rl : RLT) : Prop := rl.1 ≤ 10 ∧ ∀ j, j < rl.1 → (rl.2 j).1 < n ∧ (rl.2 j).2.1 ≤ 600 ∧ ∀ k, k < (rl.2 j).2.1 → ((rl.2 j).2.2.2 k = -1 ∧ ¬ isV ((rl.2 j).2.2.1 k)) ∨ ∃ i, i < n ∧ (rl.2 j).2.2.2 k = nI i ∧ isV ((rl.2 j).2.2.1 k) ∧ arnd (rl.2 j).2.2.1 k 0 = nI i
def TIE (a8 a9 : Nat) (σ : Hp) : Prop := ∃ (c e : Nat → Nat) (s : Nat) (g : G1) (t : G2) (sh : SHT) (rl : RLT) (sc : SCT), c 0 = a8 ∧ T8 σ c s g t sh rl sc ∧ T9 σ a9 e g t sh rl sc ∧ (∀ i j, k8 rl.1 i ≠ none → k9 j ≠ none → c i ≠ e j) ∧ G1ok g ∧ SHok sh ∧ RLok g.1.1 rl
theorem WFR.set {ρ : RM} {i : Nat} {d : RD} (h : WFR ρ) (hi : i ≤ ρ.1) (hi60 : i < 60) (hd : (d.2.2.2.2 = 0 ∨ d.2.2.2.2 = 1) ∧ (d.2.2.1 = -1 ∨ ∃ j, j < ρ.1 ∧ d.2.2.1 = nI j) ∧ (d.2.2.2.1 = -1 ∨ ∃ j, j < ρ.1 ∧ d.2.2.2.1 = nI j) ∧ (0 ≤ d.1.toInt ∧ d.1.toInt < 4) ∧ -1000 ≤ d.2.1.toInt ∧ d.2.1.toInt ≤ 1000) : WFR (setR ρ i d) := by
  have hle : ρ.1 ≤ (setR ρ i d).1 := by rw [setR_1]; split <;> omega
  have up : ∀ x : Int32, (x = -1 ∨ ∃ j, j < ρ.1 ∧ x = nI j) → (x = -1 ∨ ∃ j, j < (setR ρ i d).1 ∧ x = nI j) := fun x hx => hx.imp id (fun ⟨j, h1, h2⟩ => ⟨j, by omega, h2⟩)
  refine ⟨?_, fun j hj => ?_⟩
  · have := h.1
    rw [setR_1]; split <;> omega
  · rw [setR_2]
    by_cases hji : j = i
    · rw [if_pos hji]
      exact ⟨hd.1, up _ hd.2.1, up _ hd.2.2.1, hd.2.2.2⟩
    · rw [if_neg hji]
      have hj' : j < ρ.1 := by rw [setR_1] at hj; split at hj <;> omega
      obtain ⟨h1, h2, h3, h4⟩ := h.2 j hj'
      exact ⟨h1, up _ h2, up _ h3, h4⟩
theorem G1ok.tell {g : G1} {i : Nat} {d : RD} (h : G1ok g) (hw : WFR (setR g.1 i d)) : G1ok (tellG g i d) := by
  obtain ⟨h1, h2, h3⟩ := h
  refine ⟨?_, ?_, fun k hk => ?_⟩
  · show (if g.2.2 + 1 = g.2.2 + 1 then setR g.1 i d else g.2.1 (g.2.2 + 1)) = _
    rw [if_pos rfl]; rfl
  · show (if 0 = g.2.2 + 1 then setR g.1 i d else g.2.1 0).1 = 0
    rw [if_neg (by omega)]; exact h2
  · show WFR (if k = g.2.2 + 1 then setR g.1 i d else g.2.1 k)
    have hk : k ≤ g.2.2 + 1 := hk
    by_cases hkm : k = g.2.2 + 1
    · rw [if_pos hkm]; exact hw
    · rw [if_neg hkm]; exact h3 k (by omega)
theorem G1ok.wf {g : G1} (h : G1ok g) : WFR g.1 := by
  have := h.2.2 g.2.2 (Nat.le_refl _)
  rwa [h.1] at this
theorem refd_j {ρ : RM} {x : Int32} (h : refd ρ x) : x = -1 ∨ ∃ j, j < ρ.1 ∧ x = nI j := h.imp id (fun hs => ⟨x.toNatClampNeg, by rw [icl]; omega, (nI_cl hs.1.1).symm⟩)
theorem RLok.mono {n m : Nat} {rl : RLT} (h : RLok n rl) (hm : n ≤ m) : RLok m rl := ⟨h.1, fun j hj => by
  obtain ⟨h1, h2, h3⟩ := h.2 j hj
  exact ⟨by omega, h2, fun k hk => (h3 k hk).imp id (fun ⟨i, q1, q2⟩ => ⟨i, by omega, q2⟩)⟩⟩
theorem tellG_n {g : G1} {i : Nat} {d : RD} : g.1.1 ≤ (tellG g i d).1.1 := by
  show _ ≤ (if i < g.1.1 then g.1.1 else i + 1)
  split <;> omega
/-- what the four operations on rows keep -/
def OPok (g : G1) (o : OPT) : Prop := G1ok o.2.1 ∧ g.1.1 ≤ o.2.1.1.1
theorem oRow_ok {g : G1} {tb v r0 r1 : Int32} (h : G1ok g) : OPok g (oRow g tb v r0 r1) := by
  unfold oRow
  have hw := h.wf
  split
  · exact ⟨h, Nat.le_refl _⟩
  · split
    · exact ⟨h, Nat.le_refl _⟩
    · split
      · exact ⟨h, Nat.le_refl _⟩
      · rename_i q1 q2 q3
        have q1 := Classical.not_not.mp q1
        have q2 := Classical.not_not.mp q2
        have h60 := hw.1
        exact ⟨h.tell (hw.set (Nat.le_refl _) (by omega) ⟨Or.inr rfl, refd_j q2.1, refd_j q2.2, q1.1, q1.2⟩), tellG_n⟩
theorem oValue_ok {g : G1} {x v : Int32} (h : G1ok g) : OPok g (oValue g x v) := by
  unfold oValue
  have hw := h.wf
  split
  · exact ⟨h, Nat.le_refl _⟩
  · split
    · exact ⟨h, Nat.le_refl _⟩
    · split
      · exact ⟨h, Nat.le_refl _⟩
      · rename_i q1 q2 q3
        have q1 := Classical.not_not.mp q1
        have q2 := Classical.not_not.mp q2
        have h60 := hw.1
        have hi : x.toNatClampNeg < g.1.1 := by rw [icl]; omega
        obtain ⟨w1, w2, w3, w4, w5⟩ := hw.2 _ hi
        exact ⟨h.tell (hw.set (by omega) (by omega) ⟨w1, w2, w3, w4, q1⟩), tellG_n⟩
theorem oRefer_ok {g : G1} {x r to : Int32} (h : G1ok g) : OPok g (oRefer g x r to) := by
  unfold oRefer
  have hw := h.wf
  split
  · exact ⟨h, Nat.le_refl _⟩
  · split
    · exact ⟨h, Nat.le_refl _⟩
    · split
      · exact ⟨h, Nat.le_refl _⟩
      · rename_i q1 q2 q3
        have q2 := Classical.not_not.mp q2
        have h60 := hw.1
        have hi : x.toNatClampNeg < g.1.1 := by rw [icl]; omega
        obtain ⟨w1, w2, w3, w4, w5⟩ := hw.2 _ hi
        refine ⟨h.tell (hw.set (by omega) (by omega) ?_), tellG_n⟩
        split
        · exact ⟨w1, refd_j q2.2, w3, w4, w5⟩
        · exact ⟨w1, w2, refd_j q2.2, w4, w5⟩
theorem oGo_ok {g : G1} {x : Int32} (h : G1ok g) : OPok g (oGo g x) := by
  unfold oGo
  have hw := h.wf
  split
  · exact ⟨h, Nat.le_refl _⟩
  · split
    · exact ⟨h, Nat.le_refl _⟩
    · rename_i q2 q3
      have q2 := Classical.not_not.mp q2
      have h60 := hw.1
      have hi : x.toNatClampNeg < g.1.1 := by rw [icl]; omega
      obtain ⟨w1, w2, w3, w4, w5⟩ := hw.2 _ hi
      exact ⟨h.tell (hw.set (by omega) (by omega) ⟨Or.inl rfl, w2, w3, w4, w5⟩), tellG_n⟩
/-! a call of both -/
theorem L9.n4 {σ : Hp} {a : Nat} {e : Nat → Nat} (h : L9 σ a e) {q k : Nat} (hq : gk σ q = Option.some (4, 0)) : ¬ W9 a e q k := by
  rintro (rfl | ⟨j, hj, rfl⟩)
  · rw [h.1] at hq; cases hq
  · obtain ⟨u, hu⟩ := Option.ne_none_iff_exists'.mp hj
    rw [h.k j hu] at hq
    have := k9_kind hu
    cases hq
    simp at this
theorem L8.na {σ : Hp} {c : Nat → Nat} {rc s i a : Nat} (h : L8 σ c rc s) (hi : k8 rc i ≠ none) (ha : gk σ a = Option.some (9, 0)) : c i ≠ a := by
  rintro rfl
  obtain ⟨u, hu⟩ := Option.ne_none_iff_exists'.mp hi
  have h1 := h.1 i u hu
  rw [ha] at h1
  cases h1
  rcases k8_none hi with h2 | ⟨j, hj, h2⟩
  · have : ∀ i, i < 26 → k8l.getD i none ≠ Option.some (9, 0) := by decide +kernel
    unfold k8 at hu
    rw [if_pos h2] at hu
    exact this i h2 hu
  · have := k8_rd hj
    rcases h2 with rfl | rfl | rfl
    · rw [this.1] at hu; cases hu
    · rw [this.2.1] at hu; cases hu
    · rw [this.2.2] at hu; cases hu
/-- the two answer alike, and are tied behind it: rows, moments, status, tape and scalars may become others -/
theorem both {σ : Hp} {c e : Nat → Nat} {a9 s s' : Nat} {g g' : G1} {t t' : G2} {sh sh' : SHT} {rl : RLT} {sc sc' : SCT} {ans : Int32} {P8 : (Int32 → Hp → Prop) → Prop} {P9 : Hp → (Int32 → Hp → Prop) → Prop} {K : Hp → Prop}
    (hT8 : T8 σ c s g t sh rl sc) (hT9 : T9 σ a9 e g t sh rl sc) (hdis : ∀ i j, k8 rl.1 i ≠ none → k9 j ≠ none → c i ≠ e j) (hg : G1ok g') (hsh : SHok sh') (hrl : RLok g'.1.1 rl)
    (h8 : ∀ post, (∀ σ', T8 σ' c s' g' t' sh' rl sc' → Ag (S8 c rl.1) (S8 c rl.1) σ σ' → post ans σ') → P8 post)
    (h9 : ∀ σ1 post, T9 σ1 a9 e g t sh rl sc → (∀ σ', T9 σ' a9 e g' t' sh' rl sc' → SK σ1 σ' → Fr (W9 a9 e) σ1 σ' → post ans σ') → P9 σ1 post)
    (hK : ∀ σ', TIE (c 0) a9 σ' → K σ') {Q8 : Int32 → Hp → Prop} (hQ : ∀ r1 σ1, (gk σ1 a9 = some (9, 0) ∧ P9 σ1 (fun r2 σ2 => (r1 = r2 → K σ2) ∧ (¬ r1 = r2 → False))) → Q8 r1 σ1) : P8 Q8 := by
  refine h8 _ (fun σ1 hT8' hA => hQ _ _ ?_)
  have hna : ∀ i, k8 rl.1 i ≠ none → c i ≠ a9 := fun i hi => hT8.1.na hi hT9.1.1
  have hT9' : T9 σ1 a9 e g t sh rl sc := hT9.ag hA ⟨fun ⟨i, hi, z⟩ => hna i hi z.symm, fun ⟨i, hi, z⟩ => hna i hi z.symm⟩ (fun j hj => ⟨fun ⟨i, hi, z⟩ => hdis i j hi hj z.symm, fun ⟨i, hi, z⟩ => hdis i j hi hj z.symm⟩)
  refine ⟨hT9'.1.1, h9 σ1 _ hT9' (fun σ2 hT9'' hs hf => ⟨fun _ => hK σ2 ?_, fun z => z rfl⟩)⟩
  have hT8'' : T8 σ2 c s' g' t' sh' rl sc' := hT8'.ag (Ag.of hs hf) (fun i hi => ⟨fun ⟨k, z⟩ => z.elim (hna i hi) (fun ⟨j, hj, z⟩ => hdis i j hi hj z), id⟩) (fun q hq ⟨k, z⟩ => hT9'.1.n4 hq z)
  exact ⟨c, e, s', g', t', sh', rl, sc', rfl, hT8'', hT9'', hdis, hg, hsh, hrl⟩
section CALLS
variable {σ : Hp} {a8 a9 : Nat} {K : Hp → Prop}
theorem call_row {x1 x2 x3 x4 : Int32} (h : TIE a8 a9 σ) (hK : ∀ σ', TIE a8 a9 σ' → K σ') {Q8 : Int32 → Hp → Prop} (hQ : ∀ r1 σ1, (gk σ1 a9 = some (9, 0) ∧ P_X9_row a9 x1 x2 x3 x4 σ1 (fun r2 σ2 => (r1 = r2 → K σ2) ∧ (¬ r1 = r2 → False))) → Q8 r1 σ1) : P_X8_row a8 x1 x2 x3 x4 σ Q8 := by
  obtain ⟨c, e, s, g, t, sh, rl, sc, rfl, hT8, hT9, hdis, hg, hsh, hrl⟩ := h
  have ho := oRow_ok (tb := x1) (v := x2) (r0 := x3) (r1 := x4) hg
  exact both (P9 := fun σ1 post => P_X9_row a9 x1 x2 x3 x4 σ1 post) hT8 hT9 hdis ho.1 hsh (hrl.mono ho.2) (fun post hp => T8_row hT8 hg hp) (fun σ1 post h9 hp => T9_row h9 hg hp) hK hQ
theorem call_value {x1 x2 : Int32} (h : TIE a8 a9 σ) (hK : ∀ σ', TIE a8 a9 σ' → K σ') {Q8 : Int32 → Hp → Prop} (hQ : ∀ r1 σ1, (gk σ1 a9 = some (9, 0) ∧ P_X9_value a9 x1 x2 σ1 (fun r2 σ2 => (r1 = r2 → K σ2) ∧ (¬ r1 = r2 → False))) → Q8 r1 σ1) : P_X8_value a8 x1 x2 σ Q8 := by
  obtain ⟨c, e, s, g, t, sh, rl, sc, rfl, hT8, hT9, hdis, hg, hsh, hrl⟩ := h
  have ho := oValue_ok (x := x1) (v := x2) hg
  exact both (P9 := fun σ1 post => P_X9_value a9 x1 x2 σ1 post) hT8 hT9 hdis ho.1 hsh (hrl.mono ho.2) (fun post hp => T8_value hT8 hg hp) (fun σ1 post h9 hp => T9_value h9 hg hp) hK hQ
theorem call_refer {x1 x2 x3 : Int32} (h : TIE a8 a9 σ) (hK : ∀ σ', TIE a8 a9 σ' → K σ') {Q8 : Int32 → Hp → Prop} (hQ : ∀ r1 σ1, (gk σ1 a9 = some (9, 0) ∧ P_X9_refer a9 x1 x2 x3 σ1 (fun r2 σ2 => (r1 = r2 → K σ2) ∧ (¬ r1 = r2 → False))) → Q8 r1 σ1) : P_X8_refer a8 x1 x2 x3 σ Q8 := by
  obtain ⟨c, e, s, g, t, sh, rl, sc, rfl, hT8, hT9, hdis, hg, hsh, hrl⟩ := h
  have ho := oRefer_ok (x := x1) (r := x2) (to := x3) hg
  exact both (P9 := fun σ1 post => P_X9_refer a9 x1 x2 x3 σ1 post) hT8 hT9 hdis ho.1 hsh (hrl.mono ho.2) (fun post hp => T8_refer hT8 hg hp) (fun σ1 post h9 hp => T9_refer h9 hg hp) hK hQ
theorem call_go {x1 : Int32} (h : TIE a8 a9 σ) (hK : ∀ σ', TIE a8 a9 σ' → K σ') {Q8 : Int32 → Hp → Prop} (hQ : ∀ r1 σ1, (gk σ1 a9 = some (9, 0) ∧ P_X9_go a9 x1 σ1 (fun r2 σ2 => (r1 = r2 → K σ2) ∧ (¬ r1 = r2 → False))) → Q8 r1 σ1) : P_X8_go a8 x1 σ Q8 := by
  obtain ⟨c, e, s, g, t, sh, rl, sc, rfl, hT8, hT9, hdis, hg, hsh, hrl⟩ := h
  have ho := oGo_ok (x := x1) hg
  exact both (P9 := fun σ1 post => P_X9_go a9 x1 σ1 post) hT8 hT9 hdis ho.1 hsh (hrl.mono ho.2) (fun post hp => T8_go hT8 hg hp) (fun σ1 post h9 hp => T9_go h9 hg hp) hK hQ
theorem call_of {x1 x2 : Int32} (h : TIE a8 a9 σ) (hK : ∀ σ', TIE a8 a9 σ' → K σ') {Q8 : Int32 → Hp → Prop} (hQ : ∀ r1 σ1, (gk σ1 a9 = some (9, 0) ∧ P_X9_of a9 x1 x2 σ1 (fun r2 σ2 => (r1 = r2 → K σ2) ∧ (¬ r1 = r2 → False))) → Q8 r1 σ1) : P_X8_of a8 x1 x2 σ Q8 := by
  obtain ⟨c, e, s, g, t, sh, rl, sc, rfl, hT8, hT9, hdis, hg, hsh, hrl⟩ := h
  exact both (P9 := fun σ1 post => P_X9_of a9 x1 x2 σ1 post) hT8 hT9 hdis hg hsh hrl (fun post hp => T8_of hT8 (hp _ hT8 Ag.rf)) (fun σ1 post h9 hp => T9_of h9 hp) hK hQ
theorem call_status (h : TIE a8 a9 σ) (hK : ∀ σ', TIE a8 a9 σ' → K σ') {Q8 : Int32 → Hp → Prop} (hQ : ∀ r1 σ1, (gk σ1 a9 = some (9, 0) ∧ P_X9_status a9 σ1 (fun r2 σ2 => (r1 = r2 → K σ2) ∧ (¬ r1 = r2 → False))) → Q8 r1 σ1) : P_X8_status a8 σ Q8 := by
  obtain ⟨c, e, s, g, t, sh, rl, sc, rfl, hT8, hT9, hdis, hg, hsh, hrl⟩ := h
  exact both (P9 := fun σ1 post => P_X9_status a9 σ1 post) hT8 hT9 hdis hg hsh hrl (fun post hp => T8_status hT8 (hp _ hT8 Ag.rf)) (fun σ1 post h9 hp => T9_status h9 hp) hK hQ
theorem call_fault (h : TIE a8 a9 σ) (hK : ∀ σ', TIE a8 a9 σ' → K σ') {Q8 : Int32 → Hp → Prop} (hQ : ∀ r1 σ1, (gk σ1 a9 = some (9, 0) ∧ P_X9_fault a9 σ1 (fun r2 σ2 => (r1 = r2 → K σ2) ∧ (¬ r1 = r2 → False))) → Q8 r1 σ1) : P_X8_fault a8 σ Q8 := by
  obtain ⟨c, e, s, g, t, sh, rl, sc, rfl, hT8, hT9, hdis, hg, hsh, hrl⟩ := h
  exact both (P9 := fun σ1 post => P_X9_fault a9 σ1 post) hT8 hT9 hdis hg hsh hrl (fun post hp => T8_fault hT8 (hp _ hT8 Ag.rf)) (fun σ1 post h9 hp => T9_fault h9 hp) hK hQ
end CALLS
