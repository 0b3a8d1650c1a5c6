/-! a call of both in general: readers, shape and the class's cells may become others -/
theorem bothG {σ : Hp} {c e : Nat → Nat} {a9 s : Nat} {g g' : G1} {t t' : G2} {sh sh' : SHT} {rl rl' : RLT} {sc sc' : SCT} {ans : Int32} {P8 : (Int32 → Hp → Prop) → Prop} {P9 : Hp → (Int32 → Hp → Prop) → Prop} {K : Hp → Prop}
    (hT8 : T8 σ c s g t sh rl sc) (hT9 : T9 σ a9 e g t sh rl sc) (hdis : ∀ i j, k8 rl.1 i ≠ none → k9 j ≠ none → c i ≠ e j) (hg : G1ok g') (hsh : SHok sh') (hrl : RLok g'.1.1 rl')
    (h8 : ∀ post, (∀ σ' c' s', c' 0 = c 0 → T8 σ' c' s' g' t' sh' rl' sc' → Ag (S8 c rl.1) (S8 c rl.1) σ σ' → (∀ i, k8 rl'.1 i ≠ none → S8 c rl.1 (c' i) ∨ gk σ (c' i) = none) → post ans σ') → P8 post)
    (h9 : ∀ σ1 post, T9 σ1 a9 e g t sh rl sc → (∀ σ', T9 σ' a9 e g' t' sh' rl' sc' → SK σ1 σ' → Fr (W9 a9 e) σ1 σ' → post ans σ') → P9 σ1 post)
    (hK : ∀ σ', TIE (c 0) a9 σ' → K σ') {Q8 : Int32 → Hp → Prop} (hQ : ∀ r1 σ1, (gk σ1 a9 = some (9, 0) ∧ P9 σ1 (fun r2 σ2 => (r1 = r2 → K σ2) ∧ (¬ r1 = r2 → False))) → Q8 r1 σ1) : P8 Q8 := by
  refine h8 _ (fun σ1 c' s' h0 hT8' hA hc => hQ _ _ ?_)
  have hna : ∀ i, k8 rl.1 i ≠ none → c i ≠ a9 := fun i hi => hT8.1.na hi hT9.1.1
  have hdis' : ∀ i j, k8 rl'.1 i ≠ none → k9 j ≠ none → c' i ≠ e j := fun i j hi hj z => by
    rcases hc i hi with ⟨i', hi', h'⟩ | h'
    · exact hdis i' j hi' hj (h'.symm.trans z)
    · obtain ⟨u, hu⟩ := Option.ne_none_iff_exists'.mp hj
      rw [z, hT9.1.k j hu] at h'; cases h'
  have hna' : ∀ i, k8 rl'.1 i ≠ none → c' i ≠ a9 := fun i hi z => by
    rcases hc i hi with ⟨i', hi', h'⟩ | h'
    · exact hna i' hi' (h'.symm.trans z)
    · rw [z, hT9.1.1] at h'; cases h'
  have hT9' : T9 σ1 a9 e g t sh rl sc := hT9.ag hA ⟨fun ⟨i, hi, z⟩ => hna i hi z.symm, fun ⟨i, hi, z⟩ => hna i hi z.symm⟩ (fun j hj => ⟨fun ⟨i, hi, z⟩ => hdis i j hi hj z.symm, fun ⟨i, hi, z⟩ => hdis i j hi hj z.symm⟩)
  refine ⟨hT9'.1.1, h9 σ1 _ hT9' (fun σ2 hT9'' hs hf => ⟨fun _ => hK σ2 ?_, fun z => z rfl⟩)⟩
  have hT8'' : T8 σ2 c' s' g' t' sh' rl' sc' := hT8'.ag (Ag.of hs hf) (fun i hi => ⟨fun ⟨k, z⟩ => z.elim (hna' i hi) (fun ⟨j, hj, z⟩ => hdis' i j hi hj z), id⟩) (fun q hq ⟨k, z⟩ => hT9'.1.n4 hq z)
  exact ⟨c', e, s', g', t', sh', rl', sc', h0, hT8'', hT9'', hdis', hg, hsh, hrl⟩
section RDS
variable {σ σ' σ0 : Hp} {a : Nat} {e : Nat → Nat} {c : Nat → Nat} {s : Nat} {g : G1} {t : G2} {sh : SHT} {rl : RLT} {sc : SCT}
/-- only readers' cells change -/
theorem T8.rds (h : T8 σ c s g t sh rl sc) {S : Nat → Prop} (hA : Ag S (fun _ => False) σ σ') (hS : ∀ b, S b → ∃ i, 26 ≤ i ∧ k8 rl.1 i ≠ none ∧ b = c i) {rl' : RLT} (h1' : rl'.1 = rl.1) (hR : RD8 σ' c rl') : T8 σ' c s g t sh rl' sc := by
  obtain ⟨h1, h2, h3, h5, h6, h7, h8⟩ := h
  have n : ∀ i, i < 26 → ¬ S (c i) := fun i hi hb => by
    obtain ⟨j, hj, hk, e⟩ := hS _ hb
    have := h1.2.1 i j (k8_n hi) hk e
    omega
  have n4 : ∀ q, gk σ q = some (4, 0) → ¬ S q := fun q hq hb => by
    obtain ⟨j, hj, hk, e⟩ := hS _ hb
    exact h1.n4 hk hq e
  have hs8 : s = 8 ∨ s = 14 := h1.2.2.2.1.1
  unfold T8
  rw [h1']
  exact ⟨h1.ag hA (fun i hi hT => hT.elim), h2.ag hA (n 1 (by decide)) id id n4, h3.ag hA (n 3 (by decide)) id id n4, h5.ag h1 hA (n 5 (by decide)) (n 6 (by decide)), h6.ag h1 hA (fun k hk => n (s + k) (by omega)), hR, h8.ag h1 hA (n 0 (by decide))⟩
theorem T9.rds (h : T9 σ a e g t sh rl sc) (hs : SK σ σ') (hc : ∀ k ∈ [2, 9, 14, 33], gi σ' a k = gi σ a k) (ha : ∀ j ∈ [3, 4, 5, 6, 7, 8, 10, 11, 12, 13, 15, 16, 17, 18, 19, 20, 32], ∀ k, gi σ' (e j) k = gi σ (e j) k) {rl' : RLT} {sc' : SCT} (hR : RD9 σ' a e rl') (h7 : SC9 σ' a sc') : T9 σ' a e g t sh rl' sc' := by
  obtain ⟨h1, h2, h3, h4, h5, -, -⟩ := h
  refine ⟨h1.sk hs, ?_, ?_, ?_, ?_, hR, h7⟩
  · unfold R9 at *
    rw [hc 9 (by decide)]
    simpa only [ha 10 (by decide), ha 11 (by decide), ha 12 (by decide), ha 13 (by decide)] using h2
  · unfold H9 at *
    rw [hc 2 (by decide)]
    simpa only [ha 3 (by decide), ha 4 (by decide), ha 5 (by decide), ha 6 (by decide), ha 7 (by decide), ha 8 (by decide)] using h3
  · unfold TP9 at *
    rw [hc 33 (by decide)]
    simpa only [ha 32 (by decide)] using h4
  · unfold SH9 at *
    rw [hc 14 (by decide)]
    simpa only [ha 15 (by decide), ha 16 (by decide), ha 17 (by decide), ha 18 (by decide), ha 19 (by decide), ha 20 (by decide)] using h5
theorem k9_r : ∀ j ∈ [3, 4, 5, 6, 7, 8, 10, 11, 12, 13, 15, 16, 17, 18, 19, 20, 32], k9 j ≠ none ∧ j < 49 := by decide +kernel
end RDS
/-! edit -/
/-- mark k of what reader j holds becomes v -/
def rlP (rl : RLT) (j k : Nat) (v : Int32) : RLT := (rl.1, fun i => if i = j then ((rl.2 j).1, (rl.2 j).2.1, (fun q => if q = k then v else (rl.2 j).2.2.1 q), (rl.2 j).2.2.2) else rl.2 i)
abbrev hm1 (rl : RLT) (x1 x2 : Int32) : Int32 := (rl.2 x1.toNatClampNeg).2.2.1 x2.toNatClampNeg
abbrev hm2 (rl : RLT) (x1 x2 : Int32) : Int32 := (rl.2 x1.toNatClampNeg).2.2.2 x2.toNatClampNeg
/-- an edit that can be -/
abbrev edk (g : G1) (rl : RLT) (x1 x2 : Int32) : Prop := (0 ≤ x2.toInt ∧ x2.toInt < (rl.2 x1.toNatClampNeg).2.1) ∧ isV (hm1 rl x1 x2) ∧ stn g.1 (hm2 rl x1 x2) ∧ (g.1.2 (hm2 rl x1 x2).toNatClampNeg).2.1 = hm1 rl x1 x2
def oEdit (g : G1) (rl : RLT) (x1 x2 v : Int32) : Int32 × G1 × RLT × Int32 := if ¬ isV v then (-1, g, rl, -1) else if ¬ isRd rl x1 then (-2, g, rl, -2) else if ¬ edk g rl x1 x2 then (-3, g, rl, -3) else if g.2.2 = 300 then (-5, g, rl, -5) else (hm2 rl x1 x2, tellG g (hm2 rl x1 x2).toNatClampNeg ((g.1.2 (hm2 rl x1 x2).toNatClampNeg).1, v, (g.1.2 (hm2 rl x1 x2).toNatClampNeg).2.2), rlP rl x1.toNatClampNeg x2.toNatClampNeg v, 0)
theorem arnd_co {f h : Nat → Int32} (hfh : ∀ q, f q = h q ∨ (isV (f q) ∧ isV (h q))) : ∀ k en, arnd f k en = arnd h k en
  | 0, _ => rfl
  | k + 1, en => by
    have i1 := arnd_co hfh k (en + 1)
    have i2 := arnd_co hfh k en
    have i3 := fun m => arnd_co hfh k m
    rw [arnd_s, arnd_s]
    rcases hfh k with h1 | ⟨h1, h2⟩
    · rw [h1, i1, i2]
      cases en with
      | zero => rfl
      | succ m => simp only [i3 m]
    · have h1 : -1000 ≤ (f k).toInt ∧ (f k).toInt ≤ 1000 := h1
      have h2 : -1000 ≤ (h k).toInt ∧ (h k).toInt ≤ 1000 := h2
      have e3 : (30000 : Int32).toInt = 30000 := by decide
      rw [if_neg (by rw [ieq, e3]; omega), if_neg (by omega), if_neg (by rw [ieq, e3]; omega), if_neg (by omega), i2]
theorem RLok.put {n : Nat} {rl : RLT} (h : RLok n rl) {j k : Nat} {v : Int32} (hv : isV v) (hk : isV ((rl.2 j).2.2.1 k)) : RLok n (rlP rl j k v) := by
  refine ⟨h.1, fun i hi => ?_⟩
  obtain ⟨h1, h2, h3⟩ := h.2 i hi
  show ((if i = j then ((rl.2 j).1, (rl.2 j).2.1, (fun q => if q = k then v else (rl.2 j).2.2.1 q), (rl.2 j).2.2.2) else rl.2 i) : Nat × Nat × (Nat → Int32) × (Nat → Int32)).1 < n ∧ _
  unfold rlP
  simp only []
  by_cases hij : i = j
  · rw [if_pos hij]
    rw [hij] at h1 h2 h3
    refine ⟨h1, h2, fun q hq => ?_⟩
    have hco : ∀ q, (fun q => if q = k then v else (rl.2 j).2.2.1 q) q = (rl.2 j).2.2.1 q ∨ (isV ((fun q => if q = k then v else (rl.2 j).2.2.1 q) q) ∧ isV ((rl.2 j).2.2.1 q)) := fun q => by
      by_cases hqk : q = k
      · exact Or.inr ⟨by show isV (if q = k then v else _); rw [if_pos hqk]; exact hv, by rw [hqk]; exact hk⟩
      · exact Or.inl (if_neg hqk)
    rcases h3 q hq with ⟨w1, w2⟩ | ⟨w, w1, w2, w3, w4⟩
    · refine Or.inl ⟨w1, ?_⟩
      show ¬ isV (if q = k then v else _)
      rw [if_neg (fun z => w2 (by rw [z]; exact hk))]; exact w2
    · refine Or.inr ⟨w, w1, w2, ?_, ?_⟩
      · show isV (if q = k then v else _)
        by_cases hqk : q = k
        · rw [if_pos hqk]; exact hv
        · rw [if_neg hqk]; exact w3
      · rw [arnd_co hco]; exact w4
  · rw [if_neg hij]; exact ⟨h1, h2, h3⟩
theorem RLok.row {n : Nat} {rl : RLT} (h : RLok n rl) {j k : Nat} (hj : j < rl.1) (hk : k < (rl.2 j).2.1) : (isV ((rl.2 j).2.2.1 k) → ∃ i, i < n ∧ (rl.2 j).2.2.2 k = nI i ∧ arnd (rl.2 j).2.2.1 k 0 = nI i) ∧ (¬ isV ((rl.2 j).2.2.1 k) → (rl.2 j).2.2.2 k = -1) := by
  rcases (h.2 j hj).2.2 k hk with ⟨w1, w2⟩ | ⟨w, w1, w2, w3, w4⟩
  · exact ⟨fun z => absurd z w2, fun _ => w1⟩
  · exact ⟨fun _ => ⟨w, w1, w2, w4⟩, fun z => absurd w3 z⟩
