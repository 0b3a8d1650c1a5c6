/-! the class's parser -/
def SQ (c : Nat → Nat) (s2 q b : Nat) : Prop := b = q ∨ ∃ k, k < 6 ∧ b = c (s2 + k)
/-- a parser made at q -/
def C2 (σ0 : Hp) (c : Nat → Nat) (s s2 q : Nat) (g : G1) (t : G2) (sh : SHT) (rl : RLT) (sc : SCT) : Prop := T8 σ0 c s g t sh rl sc ∧ gk σ0 q = some (2, 0) ∧ gr σ0 q 0 = some (c 5) ∧ gr σ0 q 1 = some (c s2) ∧ s2 = 22 - s
/-- what it has read: x -/
def R2 (σ0 : Hp) (c : Nat → Nat) (s2 q : Nat) (σ : Hp) (x : PS) : Prop := Ag (SQ c s2 q) (fun _ => False) σ0 σ ∧ gi σ q 2 = nI x.1 ∧ gi σ q 3 = nI x.2.1 ∧ SH8 σ c s2 x.2.2.1
theorem L8.n2 {σ : Hp} {c : Nat → Nat} {rc s i q : Nat} (h : L8 σ c rc s) (hi : k8 rc i ≠ none) (hq : gk σ q = Option.some (2, 0)) : q ≠ c i := by
  rintro rfl
  obtain ⟨u, hu⟩ := Option.ne_none_iff_exists'.mp hi
  have h1 := h.1 i u hu
  rw [hq] at h1
  cases h1
  rcases k8_none hi with h2 | ⟨j, hj, h2⟩
  · have : ∀ i, i < 26 → k8l.getD i none ≠ Option.some (2, 0) := by decide +kernel
    unfold k8 at hu
    rw [if_pos h2] at hu
    exact this i h2 hu
  · have := k8_rd hj
    rcases h2 with rfl | rfl | rfl
    · rw [this.1] at hu; cases hu
    · rw [this.2.1] at hu; cases hu
    · rw [this.2.2] at hu; cases hu
/-- a shape's cells, in use or not -/
theorem L8.shp {σ : Hp} {c : Nat → Nat} {rc s s2 : Nat} (h : L8 σ c rc s) (hs : s2 = 8 ∨ s2 = 14) : gk σ (c s2) = Option.some (6, 0) ∧ gr σ (c s2) 0 = Option.some (c (s2 + 1)) ∧ gk σ (c (s2 + 1)) = Option.some (10, 20) ∧ ∀ k, 1 ≤ k → k < 5 → gr σ (c s2) k = Option.some (c (s2 + 1 + k)) ∧ gk σ (c (s2 + 1 + k)) = Option.some (10, 100) := by
  rcases hs with rfl | rfl
  · refine ⟨h.k 8 (by decide) rfl, h.r 8 0 9 (by decide), h.k 9 (by decide) rfl, fun k h1 h2 => ?_⟩
    rcases (show k = 1 ∨ k = 2 ∨ k = 3 ∨ k = 4 by omega) with rfl | rfl | rfl | rfl
    · exact ⟨h.r 8 1 10 (by decide), h.k 10 (by decide) rfl⟩
    · exact ⟨h.r 8 2 11 (by decide), h.k 11 (by decide) rfl⟩
    · exact ⟨h.r 8 3 12 (by decide), h.k 12 (by decide) rfl⟩
    · exact ⟨h.r 8 4 13 (by decide), h.k 13 (by decide) rfl⟩
  · refine ⟨h.k 14 (by decide) rfl, h.r 14 0 15 (by decide), h.k 15 (by decide) rfl, fun k h1 h2 => ?_⟩
    rcases (show k = 1 ∨ k = 2 ∨ k = 3 ∨ k = 4 by omega) with rfl | rfl | rfl | rfl
    · exact ⟨h.r 14 1 16 (by decide), h.k 16 (by decide) rfl⟩
    · exact ⟨h.r 14 2 17 (by decide), h.k 17 (by decide) rfl⟩
    · exact ⟨h.r 14 3 18 (by decide), h.k 18 (by decide) rfl⟩
    · exact ⟨h.r 14 4 19 (by decide), h.k 19 (by decide) rfl⟩
theorem X2_isLetter {b : Int32} {σ : Hp} {post : Int32 → Hp → Prop} (h1 : isL b = true → post 1 σ) (h0 : ¬ isL b = true → post 0 σ) : P_X2_isLetter b σ post := by
  unfold P_X2_isLetter
  unfold isL at h1 h0
  rw [decide_eq_true_eq] at h1 h0
  rw [ilt, ilt, show (97 : Int32).toInt = 97 by decide, show (122 : Int32).toInt = 122 by decide]
  exact ⟨fun z => h0 (by omega), fun _ => ⟨fun z => h0 (by omega), fun _ => h1 (by omega)⟩⟩
theorem X2_isDigit {b : Int32} {σ : Hp} {post : Int32 → Hp → Prop} (h1 : isD b = true → post 1 σ) (h0 : ¬ isD b = true → post 0 σ) : P_X2_isDigit b σ post := by
  unfold P_X2_isDigit
  unfold isD at h1 h0
  rw [decide_eq_true_eq] at h1 h0
  rw [ilt, ilt, show (48 : Int32).toInt = 48 by decide, show (57 : Int32).toInt = 57 by decide]
  exact ⟨fun z => h0 (by omega), fun _ => ⟨fun z => h0 (by omega), fun _ => h1 (by omega)⟩⟩
section TOK8
variable {σ σ' σ0 : Hp} {c : Nat → Nat} {s s2 q : Nat} {g : G1} {t : G2} {sh : SHT} {rl : RLT} {sc : SCT} {x : PS}
theorem C2.tok (hC : C2 σ0 c s s2 q g t sh rl sc) : TOK t := ⟨hC.1.2.2.2.1.2.1, fun i hi => (hC.1.2.2.2.1.2.2 i hi).2⟩
theorem C2.ss (hC : C2 σ0 c s s2 q g t sh rl sc) : (s = 8 ∧ s2 = 14) ∨ (s = 14 ∧ s2 = 8) := by
  have h1 : s = 8 ∨ s = 14 := hC.1.1.2.2.2.1.1
  have h2 := hC.2.2.2.2
  omega
theorem C2.nq (hC : C2 σ0 c s s2 q g t sh rl sc) {i : Nat} (hi : i < 26) : c i ≠ q := Ne.symm (hC.1.1.n2 (k8_n hi) hC.2.1)
theorem C2.old (hC : C2 σ0 c s s2 q g t sh rl sc) (h : R2 σ0 c s2 q σ x) {i : Nat} (hi : i < 26) : gk σ (c i) = gk σ0 (c i) ∧ ∀ k, gr σ (c i) k = gr σ0 (c i) k := by
  have := h.1 (c i) (hC.1.1.some (k8_n hi))
  exact ⟨this.1, this.2.2 id⟩
theorem C2.qq (hC : C2 σ0 c s s2 q g t sh rl sc) (h : R2 σ0 c s2 q σ x) : gk σ q = some (2, 0) ∧ gr σ q 0 = some (c 5) ∧ gr σ q 1 = some (c s2) := by
  obtain ⟨h1, h2, h3, h4, h5⟩ := hC
  have := h.1 q (by rw [h2]; exact fun z => by cases z)
  rw [this.1, this.2.2 id, this.2.2 id]
  exact ⟨h2, h3, h4⟩
/-- cells that the parser doesn't write keep their ints -/
theorem C2.int (hC : C2 σ0 c s s2 q g t sh rl sc) (h : R2 σ0 c s2 q σ x) {i : Nat} (hi : i < 26) (hn : i < s2 ∨ s2 + 6 ≤ i) (k : Nat) : gi σ (c i) k = gi σ0 (c i) k := by
  refine ((h.1 (c i) (hC.1.1.some (k8_n hi))).2.1 (fun z => ?_) k).1
  rcases z with z | ⟨j, hj, z⟩
  · exact hC.nq hi z
  · have h2 := hC.ss
    have := hC.1.1.2.1 _ _ (k8_n hi) (k8_n (show s2 + j < 26 by omega)) z
    omega
theorem C2.byte (hC : C2 σ0 c s s2 q g t sh rl sc) (h : R2 σ0 c s2 q σ x) {i : Nat} (hi : i < 100000) {post : Int32 → Hp → Prop} (hp : post (byt t i) σ) : P_X7_byteAt (c 5) (nI i) σ post := by
  have h2 := hC.ss
  obtain ⟨t1, t2, t3⟩ := hC.1.2.2.2.1
  have k5 := hC.old h (i := 5) (by decide)
  have k6 := hC.old h (i := 6) (by decide)
  have L := hC.1.1
  unfold P_X7_byteAt
  rw [hC.int h (i := 5) (by decide) (by omega), t1]
  unfold byt at hp
  refine ⟨fun z => absurd z (nI_pos (by omega)), fun _ => ⟨by rw [k5.1]; exact L.k 5 (by decide) rfl, fun z => ?_, fun z => ⟨c 6, by rw [k5.2]; exact L.r 5 0 6 (by decide), 200, by rw [k6.1]; exact L.k 6 (by decide) rfl, fun z => ?_, fun _ => ⟨?_, ?_⟩⟩⟩⟩
  · rw [ile, nIi (by omega), nIi (by omega)] at z
    rwa [if_neg (by omega)] at hp
  · rename_i z0
    rw [ile, nIi (by omega), nIi (by omega)] at z0
    rw [ile, ofn, nIi (by omega), nIi (by omega)] at z
    omega
  · rw [ile, nIi (by omega), nIi (by omega)] at z
    exact vinN (by omega) (by decide)
  · rw [ile, nIi (by omega), nIi (by omega)] at z
    rw [if_pos (by omega)] at hp
    rw [clN (by omega), hC.int h (i := 6) (by decide) (by omega), (t3 i (by omega)).1]
    exact hp
theorem C2.sign (hC : C2 σ0 c s s2 q g t sh rl sc) (h : R2 σ0 c s2 q σ x) (hx : x.1 < 100000) {v : Int32} {post : Int32 → Hp → Prop} (h1 : sgn t x v → post 1 σ) (h0 : ¬ sgn t x v → post 0 σ) : P_X2_isSign q v σ post := by
  have hq := hC.qq h
  have k5 := hC.old h (i := 5) (by decide)
  unfold P_X2_isSign
  rw [h.2.1]
  exact ⟨hq.1, c 5, hq.2.1, by rw [k5.1]; exact hC.1.1.k 5 (by decide) rfl, hC.byte h hx ⟨fun z => h0 z, fun z => h1 z⟩⟩
theorem byt_ge {t : G2} (hT : TOK t) (i : Nat) : -1 ≤ (byt t i).toInt := by
  by_cases h : i < t.1
  · have := byt_nn hT h; omega
  · rw [(byt_m1 hT).mpr (by omega)]; decide
theorem C2.table (hC : C2 σ0 c s s2 q g t sh rl sc) (h : R2 σ0 c s2 q σ x) (hx : x.1 ≤ x.2.1 ∧ x.2.1 ≤ 200) {post : Int32 → Hp → Prop} (hp : post (tab t x) σ) : P_X2_tableHere q σ post := by
  have hq := hC.qq h
  have k5 := hC.old h (i := 5) (by decide)
  unfold P_X2_tableHere
  rw [h.2.1]
  refine ⟨hq.1, c 5, hq.2.1, by rw [k5.1]; exact hC.1.1.k 5 (by decide) rfl, hC.byte h (by omega) ⟨hq.1, ?_⟩⟩
  have hge := byt_ge hC.tok x.1
  have hr := irng (byt t x.1)
  have e97 : (97 : Int32).toInt = 97 := by decide
  have e1 : (byt t x.1 - 97).toInt = (byt t x.1).toInt - 97 := by rw [isub (by rw [e97]; omega) (by rw [e97]; omega), e97]
  have e2 : (nI x.2.1 - nI x.1 = (1 : Int32)) ↔ x.2.1 = x.1 + 1 := by
    rw [pk_sub hx.1, show (1 : Int32) = nI 1 from rfl, nI_k (by omega) (by omega)]; omega
  rw [h.2.1, h.2.2.1, e2, ilt, ile, e1, show (0 : Int32).toInt = 0 by decide, show (4 : Int32).toInt = 4 by decide]
  unfold tab at hp
  refine ⟨fun z => ?_, fun z => ⟨fun y => ?_, fun y => ⟨fun w => ?_, fun w => ?_⟩⟩⟩
  · rwa [if_neg (fun w => z w.1)] at hp
  · rwa [if_neg (by omega)] at hp
  · rwa [if_neg (by omega)] at hp
  · rwa [if_pos (by omega)] at hp
theorem strL_k : ∀ w, w < 3 → strL.getD w 0 = (strB.getD w []).length ∧ (strB.getD w []).length ≤ 4 := by decide
theorem C2.word (hC : C2 σ0 c s s2 q g t sh rl sc) (h : R2 σ0 c s2 q σ x) (hx : x.1 ≤ x.2.1 ∧ x.2.1 ≤ 200) {w : Nat} (hw : w < 3) {post : Int32 → Hp → Prop} (h1 : wrd t x (strB.getD w []) → post 1 σ) (h0 : ¬ wrd t x (strB.getD w []) → post 0 σ) : P_X2_isWord q w σ post := by
  have hq := hC.qq h
  have k5 := hC.old h (i := 5) (by decide)
  obtain ⟨e1, e2⟩ := strL_k w hw
  unfold P_X2_isWord
  rw [e1, h.2.1, h.2.2.1, pk_sub hx.1, nI_k (by omega) (by omega)]
  refine ⟨hq.1, hw, fun z => ?_, fun z => h0 (fun y => z (by rw [y.1]; omega))⟩
  intro I hI
  have key : ∀ m v, v + m = (strB.getD w []).length → (∀ i, i < v → byt t (x.1 + i) = (strB.getD w []).getD i 0) → I (nI v) σ := by
    intro m
    induction m with
    | zero =>
      intro v hv hb
      obtain rfl : v = (strB.getD w []).length := by omega
      refine hI _ _ ⟨hw, fun _ => h1 ⟨by omega, hb⟩, fun y => ?_⟩
      rw [e1] at y
      exact absurd (nI_le (Nat.le_refl _) (by omega)) y
    | succ m ih =>
      intro v hv hb
      refine hI _ _ ⟨hw, fun y => ?_, fun _ => ⟨hq.1, c 5, hq.2.1, by rw [k5.1]; exact hC.1.1.k 5 (by decide) rfl, ?_⟩⟩
      · rw [e1] at y
        exact absurd y (nI_ge (by omega) (by omega))
      · rw [h.2.1, nI_add]
        refine hC.byte h (by omega) ⟨hw, by rw [e1]; exact vinN (by omega) (by omega), fun y => ?_, fun y => ?_⟩
        · rw [clN (by omega)] at y
          rw [nI_1]
          refine ih (v + 1) (by omega) (fun i hi => ?_)
          by_cases hiv : i = v
          · rw [hiv]; exact y
          · exact hb i (by omega)
        · rw [clN (by omega)] at y
          exact h0 (fun u => y (u.2 v (by omega)))
  exact key (strB.getD w []).length 0 (by omega) (fun i hi => absurd hi (Nat.not_lt_zero _))
theorem C2.refer (hC : C2 σ0 c s s2 q g t sh rl sc) (h : R2 σ0 c s2 q σ x) (hx : x.1 ≤ x.2.1 ∧ x.2.1 ≤ 200) (h1x : 1 ≤ x.2.1) {post : Int32 → Hp → Prop} (hp : post (rfh t x) σ) : P_X2_referenceHere q σ post := by
  have hq := hC.qq h
  have k5 := hC.old h (i := 5) (by decide)
  have kk : gk σ (c 5) = some (7, 0) := by rw [k5.1]; exact hC.1.1.k 5 (by decide) rfl
  obtain ⟨e0, he0⟩ : ∃ e0, x.2.1 = e0 + 1 := ⟨x.2.1 - 1, by omega⟩
  unfold P_X2_referenceHere
  rw [h.2.1]
  refine ⟨hq.1, ?_⟩
  intro I hI
  have e3 : gi σ q 3 - (1 : Int32) = nI e0 := by rw [h.2.2.1, he0]; exact nI_pred e0
  unfold rfh at hp
  have kend : (∀ i, i < x.2.1 - 1 - x.1 → byt t (x.1 + i) = 48) → gk σ q = some (2, 0) ∧ ∃ b1 : Nat, (gr σ q 0) = some b1 ∧ gk σ b1 = some (7, 0) ∧ P_X7_byteAt b1 ((gi σ q 3) - (1 : Int32)) σ (fun (r2 : Int32) (σ2 : Hp) => gk σ2 q = some (2, 0) ∧ ∃ b3 : Nat, (gr σ2 q 0) = some b3 ∧ gk σ2 b3 = some (7, 0) ∧ P_X7_byteAt b3 (gi σ2 q 2) σ2 (fun (r4 : Int32) (σ4 : Hp) => P_X2_isDigit r4 σ4 (fun (r5 : Int32) (σ5 : Hp) => (r5 = 0 → post (-1 : Int32) σ5) ∧ (¬ (r5 = 0) → ((r2 - (48 : Int32)) = 0 → post (r2 - (48 : Int32)) σ5) ∧ (¬ ((r2 - (48 : Int32)) = 0) → (¬ (r2 - (48 : Int32)) = (1 : Int32) → post (-1 : Int32) σ5) ∧ ((r2 - (48 : Int32)) = (1 : Int32) → post (r2 - (48 : Int32)) σ5)))))) := fun hall => by
    rw [e3]
    refine ⟨hq.1, c 5, hq.2.1, kk, hC.byte h (by omega) ⟨hq.1, c 5, hq.2.1, kk, ?_⟩⟩
    rw [h.2.1]
    have hge := byt_ge hC.tok e0
    have hr := irng (byt t e0)
    have e48 : (48 : Int32).toInt = 48 := by decide
    have es : (byt t e0 - 48).toInt = (byt t e0).toInt - 48 := by rw [isub (by rw [e48]; omega) (by rw [e48]; omega), e48]
    have d0 : byt t e0 - 48 = 0 ↔ byt t (x.2.1 - 1) = 48 := by
      rw [ieq, es, he0, ieq, e48, show (0 : Int32).toInt = 0 by decide, show e0 + 1 - 1 = e0 by omega]; omega
    have d1 : byt t e0 - 48 = 1 ↔ byt t (x.2.1 - 1) = 49 := by
      rw [ieq, es, he0, ieq, show (49 : Int32).toInt = 49 by decide, show (1 : Int32).toInt = 1 by decide, show e0 + 1 - 1 = e0 by omega]; omega
    have dd : byt t (x.2.1 - 1) - 48 = byt t e0 - 48 := by rw [he0]; rfl
    rw [dd] at hp
    refine hC.byte h (by omega) (X2_isDigit (fun z => ⟨fun y => absurd y (by decide), fun _ => ⟨fun y => ?_, fun y => ⟨fun w => ?_, fun w => ?_⟩⟩⟩) (fun z => ⟨fun _ => ?_, fun y => absurd rfl y⟩))
    · rwa [if_pos ⟨hall, z, Or.inl (d0.mp y)⟩] at hp
    · rwa [if_neg (fun u => u.2.2.elim (fun v => y (d0.mpr v)) (fun v => w (d1.mpr v)))] at hp
    · rwa [if_pos ⟨hall, z, Or.inr (d1.mp w)⟩] at hp
    · rwa [if_neg (fun u => z u.2.1)] at hp
  have key : ∀ m v, v + m = x.2.1 - 1 - x.1 → (∀ i, i < v → byt t (x.1 + i) = 48) → I (nI (x.1 + v)) σ := by
    intro m
    induction m with
    | zero =>
      intro v hv hb
      refine hI _ _ ⟨hq.1, fun _ => kend (fun i hi => hb i (by omega)), fun z => ?_⟩
      rw [e3, ile, nIi (by omega), nIi (by omega)] at z
      omega
    | succ m ih =>
      intro v hv hb
      refine hI _ _ ⟨hq.1, fun z => ?_, fun _ => ⟨fun z => ?_, fun _ => ⟨c 5, hq.2.1, kk, hC.byte h (by omega) ⟨fun y => ?_, fun y => ?_⟩⟩⟩⟩
      · rw [e3, ile, nIi (by omega), nIi (by omega)] at z
        omega
      · rw [ile, nIi (by omega), show (200 : Int32).toInt = 200 by decide] at z
        omega
      · rw [nI_1]
        refine ih (v + 1) (by omega) (fun i hi => ?_)
        by_cases hiv : i = v
        · rw [hiv]; exact y
        · exact hb i (by omega)
      · rwa [if_neg (fun u => y (u.1 v (by omega)))] at hp
  exact key (x.2.1 - 1 - x.1) 0 (by omega) (fun i hi => absurd hi (Nat.not_lt_zero _))
theorem SH8.co {σ σ' : Hp} {c : Nat → Nat} {s2 : Nat} {sh : SHT} (h : SH8 σ c s2 sh) (he : ∀ k, k < 6 → ∀ j, gi σ' (c (s2 + k)) j = gi σ (c (s2 + k)) j) : SH8 σ' c s2 sh := by
  unfold SH8 at *
  have e0 := he 0 (by decide)
  rw [Nat.add_zero] at e0
  simpa only [e0, he 1 (by decide), he 2 (by decide), he 3 (by decide), he 4 (by decide), he 5 (by decide)] using h
theorem C2.set2 (hC : C2 σ0 c s s2 q g t sh rl sc) (h : R2 σ0 c s2 q σ x) (p : Nat) : R2 σ0 c s2 q (si σ q 2 (nI p)) (p, x.2) := by
  have h2 := hC.ss
  exact ⟨h.1.wi _ (Or.inl (Or.inl rfl)), gi_ss, by rw [gi_sk (by decide)]; exact h.2.2.1, h.2.2.2.co (fun k hk j => gi_sa (hC.nq (by omega)))⟩
theorem C2.set3 (hC : C2 σ0 c s s2 q g t sh rl sc) (h : R2 σ0 c s2 q σ x) (p : Nat) : R2 σ0 c s2 q (si σ q 3 (nI p)) (x.1, p, x.2.2) := by
  have h2 := hC.ss
  exact ⟨h.1.wi _ (Or.inl (Or.inl rfl)), by rw [gi_sk (by decide)]; exact h.2.1, gi_ss, h.2.2.2.co (fun k hk j => gi_sa (hC.nq (by omega)))⟩
theorem run_0 (t : G2) (f : Int32 → Bool) {m p : Nat} (h : ¬ f (byt t p) = true) : run t f m p = p := by
  cases m with
  | zero => rfl
  | succ m => unfold run; rw [if_neg h]
theorem run_1 (t : G2) (f : Int32 → Bool) {m p : Nat} (h : f (byt t p) = true) : run t f (m + 1) p = run t f m (p + 1) := by
  rw [show run t f (m + 1) p = if f (byt t p) = true then run t f m (p + 1) else p from rfl, if_pos h]
/-- the token's end -/
theorem C2.past (hC : C2 σ0 c s s2 q g t sh rl sc) {u2 u3 : Int32} {f : Int32 → Bool} (hu : (u2 = 1 ∧ u3 = 0 ∧ f = isL) ∨ (u2 = 0 ∧ u3 = 1 ∧ f = isD)) {post : Hp → Prop} : ∀ m σ x, m = 200 - x.2.1 → x.2.1 ≤ 201 → R2 σ0 c s2 q σ x → (∀ σ', R2 σ0 c s2 q σ' (x.1, run t f m x.2.1, x.2.2) → post σ') → lfp0 (F_X2_advance_91 q u2 u3 post) σ := by
  intro m σ x hm hx h hp
  intro I hI
  have key : ∀ m σ x, m = 200 - x.2.1 → x.2.1 ≤ 201 → R2 σ0 c s2 q σ x → (∀ σ', R2 σ0 c s2 q σ' (x.1, run t f m x.2.1, x.2.2) → post σ') → I σ := by
    intro m
    induction m with
    | zero =>
      intro σ x hm hx h hp
      have hq := hC.qq h
      have e3 := h.2.2.1
      refine hI _ ⟨hq.1, fun _ => hp σ h, fun z => ?_⟩
      rw [e3, ile, nIi (by omega), show (200 : Int32).toInt = 200 by decide] at z
      omega
    | succ m ih =>
      intro σ x hm hx h hp
      have hq := hC.qq h
      have e3 := h.2.2.1
      have k5 := hC.old h (i := 5) (by decide)
      have kk : gk σ (c 5) = some (7, 0) := by rw [k5.1]; exact hC.1.1.k 5 (by decide) rfl
      have stop : ¬ f (byt t x.2.1) = true → post σ := fun z => hp σ (by rw [run_0 t f z]; exact h)
      have go : f (byt t x.2.1) = true → I (si σ q 3 (gi σ q 3 + (1 : Int32))) := fun z => by
        rw [e3, nI_1]
        rw [run_1 t f z] at hp
        exact ih _ (x.1, x.2.1 + 1, x.2.2) (by show m = 200 - (x.2.1 + 1); omega) (by show x.2.1 + 1 ≤ 201; omega) (hC.set3 h _) hp
      refine hI _ ⟨hq.1, fun z => ?_, fun _ => ?_⟩
      · rw [e3, ile, nIi (by omega), show (200 : Int32).toInt = 200 by decide] at z
        omega
      rcases hu with ⟨rfl, rfl, rfl⟩ | ⟨rfl, rfl, rfl⟩
      · refine ⟨fun z => absurd z (by decide), fun _ => ⟨c 5, hq.2.1, kk, ?_⟩⟩
        rw [e3] at go ⊢
        exact hC.byte h (by omega) (X2_isLetter (fun z => ⟨fun _ => ⟨hq.1, by rw [e3]; exact go z⟩, fun y => absurd y (by decide)⟩) (fun z => ⟨fun y => absurd rfl y, fun _ => ⟨fun _ => stop z, fun y => absurd rfl y⟩⟩))
      · refine ⟨fun _ => ⟨fun z => absurd z (by decide), fun _ => ⟨c 5, hq.2.1, kk, ?_⟩⟩, fun z => absurd rfl z⟩
        rw [e3] at go ⊢
        exact hC.byte h (by omega) (X2_isDigit (fun z => ⟨fun y => absurd y (by decide), fun _ => ⟨hq.1, by rw [e3]; exact go z⟩⟩) (fun z => ⟨fun _ => stop z, fun y => absurd rfl y⟩))
  exact key m σ x hm hx h hp
theorem C2.past0 (hC : C2 σ0 c s s2 q g t sh rl sc) (h : R2 σ0 c s2 q σ x) {post : Hp → Prop} (hp : post σ) : lfp0 (F_X2_advance_91 q (0 : Int32) (0 : Int32) post) σ := by
  intro I hI
  exact hI _ ⟨(hC.qq h).1, fun _ => hp, fun _ => ⟨fun _ => ⟨fun _ => hp, fun z => absurd rfl z⟩, fun z => absurd rfl z⟩⟩
theorem C2.advn (hC : C2 σ0 c s s2 q g t sh rl sc) (h : R2 σ0 c s2 q σ x) (hx : x.2.1 ≤ 200) {post : Hp → Prop} (hp : ∀ σ', R2 σ0 c s2 q σ' (adv t x) → post σ') : P_X2_advance q σ post := by
  have hT := hC.tok
  have h200 : t.1 ≤ 200 := hT.1
  unfold P_X2_advance
  rw [h.2.2.1]
  refine ⟨(hC.qq h).1, ?_⟩
  -- behind the blanks
  have fin : ∀ σ', R2 σ0 c s2 q σ' (skp t x.2.1, x.2) → skp t x.2.1 ≤ 200 → gk σ' q = some (2, 0) ∧ ∃ b1 : Nat, (gr σ' q 0) = some b1 ∧ gk σ' b1 = some (7, 0) ∧ P_X7_byteAt b1 (gi σ' q 2) σ' (fun (r2 : Int32) (σ2 : Hp) => (¬ r2 = (-1 : Int32) → gk σ2 q = some (2, 0) ∧ P_X2_isLetter r2 (si σ2 q 3 ((gi σ2 q 2) + (1 : Int32))) (fun (r3 : Int32) (σ3 : Hp) => P_X2_isDigit r2 σ3 (fun (r4 : Int32) (σ4 : Hp) => lfp0 (F_X2_advance_91 q r3 r4 post)  σ4))) ∧ (r2 = (-1 : Int32) → gk σ2 q = some (2, 0) ∧ P_X2_isLetter r2 (si σ2 q 3 (gi σ2 q 2)) (fun (r5 : Int32) (σ5 : Hp) => P_X2_isDigit r2 σ5 (fun (r6 : Int32) (σ6 : Hp) => lfp0 (F_X2_advance_91 q r5 r6 post)  σ6)))) := fun σ' h' hs => by
    unfold adv at hp
    generalize skp t x.2.1 = p at hp h' hs
    have hq := hC.qq h'
    have k5 := hC.old h' (i := 5) (by decide)
    have e2 : gi σ' q 2 = nI p := h'.2.1
    refine ⟨hq.1, c 5, hq.2.1, by rw [k5.1]; exact hC.1.1.k 5 (by decide) rfl, ?_⟩
    rw [e2]
    refine hC.byte h' (by omega) ⟨fun hb => ⟨hq.1, ?_⟩, fun hb => ⟨hq.1, ?_⟩⟩
    · rw [e2, nI_1]
      have h3 := hC.set3 h' (p + 1)
      unfold tnd at hp
      rw [if_neg hb] at hp
      refine X2_isLetter (fun z => X2_isDigit (fun y => ?_) (fun _ => ?_)) (fun z => X2_isDigit (fun y => ?_) (fun y => ?_))
      · unfold isL at z
        unfold isD at y
        rw [decide_eq_true_eq] at z y
        omega
      · rw [if_pos z] at hp
        exact hC.past (Or.inl ⟨rfl, rfl, rfl⟩) _ _ (p, p + 1, x.2.2) rfl (by show p + 1 ≤ 201; omega) h3 hp
      · rw [if_neg z, if_pos y] at hp
        exact hC.past (Or.inr ⟨rfl, rfl, rfl⟩) _ _ (p, p + 1, x.2.2) rfl (by show p + 1 ≤ 201; omega) h3 hp
      · rw [if_neg z, if_neg y] at hp
        exact hC.past0 h3 (hp _ h3)
    · rw [e2]
      have h3 := hC.set3 h' p
      unfold tnd at hp
      rw [if_pos hb] at hp
      rw [hb]
      exact X2_isLetter (fun z => absurd z (by decide)) (fun _ => X2_isDigit (fun z => absurd z (by decide)) (fun _ => hC.past0 h3 (hp _ h3)))
  intro I hI
  have key : ∀ m p σ', m = 200 - p → p ≤ 200 → R2 σ0 c s2 q σ' (p, x.2) → run t isB m p = skp t x.2.1 → I σ' := by
    intro m
    induction m with
    | zero =>
      intro p σ' hm hp2 h' hr
      have e2 : gi σ' q 2 = nI p := h'.2.1
      have hpp : p = skp t x.2.1 := hr
      refine hI _ ⟨(hC.qq h').1, fun _ => fin σ' (by rw [← hpp]; exact h') (by omega), fun z => ?_⟩
      rw [e2, ile, nIi (by omega), show (200 : Int32).toInt = 200 by decide] at z
      omega
    | succ m ih =>
      intro p σ' hm hp2 h' hr
      have hq := hC.qq h'
      have e2 : gi σ' q 2 = nI p := h'.2.1
      have k5 := hC.old h' (i := 5) (by decide)
      refine hI _ ⟨hq.1, fun z => ?_, fun _ => ⟨c 5, hq.2.1, by rw [k5.1]; exact hC.1.1.k 5 (by decide) rfl, ?_⟩⟩
      · rw [e2, ile, nIi (by omega), show (200 : Int32).toInt = 200 by decide] at z
        omega
      · rw [e2]
        refine hC.byte h' (by omega) ⟨fun z => ?_, fun z => ⟨hq.1, ?_⟩⟩
        · have hpp : p = skp t x.2.1 := by rw [← hr, run_0 t isB (by unfold isB; rw [decide_eq_true_eq]; exact z)]
          exact fin σ' (by rw [← hpp]; exact h') (by omega)
        · rw [e2, nI_1]
          refine ih (p + 1) _ (by omega) (by omega) (hC.set2 h' (p + 1)) ?_
          rw [← hr, run_1 t isB (by unfold isB; rw [decide_eq_true_eq]; exact z)]
  exact key _ x.2.1 _ rfl hx (hC.set2 h x.2.1) rfl
end TOK8
