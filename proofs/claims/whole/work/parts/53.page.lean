/-! page -/
def mny (len : Nat) (n k : Int32) : Int := if 1 ≤ n.toInt ∧ n.toInt ≤ 100 ∧ 0 ≤ k.toInt then (if (len : Int) - k.toInt * n.toInt < n.toInt then (if (len : Int) - k.toInt * n.toInt < 0 then 0 else (len : Int) - k.toInt * n.toInt) else n.toInt) else 0
def oPage (len : Nat) (mk : Nat → Int32) (n k i : Int32) : Int32 := if i = -1 then nI (mny len n k).toNat else if 0 ≤ i.toInt ∧ i.toInt < mny len n k then mk (k.toInt * n.toInt + i.toInt).toNat else -5000
theorem mny_in (len : Nat) (n k : Int32) : 0 ≤ mny len n k ∧ mny len n k ≤ 100 := by
  unfold mny
  split
  · split
    · split <;> omega
    · omega
  · omega
theorem mny_pos {len : Nat} {n k : Int32} (hl : len ≤ 600) {i : Int} (h0 : 0 ≤ i) (h : i < mny len n k) : 1 ≤ n.toInt ∧ n.toInt ≤ 100 ∧ 0 ≤ k.toInt ∧ k.toInt ≤ 599 ∧ 0 ≤ k.toInt * n.toInt ∧ k.toInt * n.toInt + i < len := by
  unfold mny at h
  split at h
  · rename_i q
    have p1 : k.toInt * 1 ≤ k.toInt * n.toInt := Int.mul_le_mul_of_nonneg_left q.1 q.2.2
    have p2 : k.toInt * n.toInt + i < len := by
      split at h
      · split at h <;> omega
      · omega
    exact ⟨q.1, q.2.1, q.2.2, by omega, by omega, p2⟩
  · omega
theorem mny_bad {len : Nat} {n k : Int32} (hl : len ≤ 600) (h : ¬ (1 ≤ n.toInt ∧ n.toInt ≤ 100 ∧ 0 ≤ k.toInt ∧ k.toInt ≤ 599)) : mny len n k = 0 := by
  have := mny_in len n k
  by_cases h1 : 0 < mny len n k
  · obtain ⟨q1, q2, q3, q4, -⟩ := mny_pos hl (Int.le_refl 0) h1
    exact absurd ⟨q1, q2, q3, q4⟩ h
  · omega
theorem oPage_0 {len : Nat} {mk : Nat → Int32} {n k i : Int32} (h : mny len n k = 0) : oPage len mk n k i = if i = -1 then 0 else -5000 := by
  unfold oPage
  rw [h]
  by_cases hi : i = -1
  · rw [if_pos hi, if_pos hi]; rfl
  · rw [if_neg hi, if_neg hi, if_neg (by omega)]
theorem l_mul {n k : Int32} (h1 : 1 ≤ n.toInt) (h2 : n.toInt ≤ 100) (h3 : 0 ≤ k.toInt) : (Int32.toInt64 k * Int32.toInt64 n).toInt = k.toInt * n.toInt ∧ 0 ≤ k.toInt * n.toInt ∧ k.toInt * n.toInt ≤ 214748364700 := by
  have hk := (irng k).2
  have p1 : k.toInt * n.toInt ≤ k.toInt * 100 := Int.mul_le_mul_of_nonneg_left h2 h3
  have p2 : 0 ≤ k.toInt * n.toInt := Int.mul_nonneg h3 (by omega)
  refine ⟨?_, p2, by omega⟩
  rw [Int64.toInt_mul, i64of, i64of]
  exact l64bm (by omega) (by omega)
section PAGE8
variable {σ σ' σ0 : Hp} {c : Nat → Nat} {s : Nat} {g : G1} {t : G2} {sh : SHT} {rl : RLT} {sc : SCT}
theorem T8.pageJ {x n k i y0 : Int32} {post : Int32 → Hp → Prop} (h : T8 σ c s g t sh rl sc) (hg : WFR g.1) (hsh : SHok sh) (hy : y0 = if i = -1 then 1 else 0) (hp : ∀ σ', T8 σ' c s g t sh rl sc → Ag (S8 c rl.1) (S8 c rl.1) σ σ' → post (oPage (cut (gM g.1 sh x).1) (mk1 (gM g.1 sh x).1) n k i) σ') : J_X8_page_11 post (c 0) x n k i y0 σ := by
  have hcl := cut_le (gM g.1 sh x).1
  have y00 : y0 = 0 ↔ ¬ i = -1 := by
    rw [hy]
    by_cases hi : i = -1
    · rw [if_pos hi]; exact ⟨fun z => absurd z (by decide), fun z => absurd hi z⟩
    · rw [if_neg hi]; exact ⟨fun _ => hi, fun _ => rfl⟩
  have bad : ¬ (1 ≤ n.toInt ∧ n.toInt ≤ 100 ∧ 0 ≤ k.toInt ∧ k.toInt ≤ 599) → (y0 = 0 → post (-5000 : Int32) σ) ∧ (¬ (y0 = 0) → post (0 : Int32) σ) := fun hn => by
    have := hp _ h Ag.rf
    rw [oPage_0 (mny_bad hcl hn)] at this
    rw [y00]
    by_cases hi : i = -1
    · rw [if_pos hi] at this
      exact ⟨fun z => absurd hi z, fun _ => this⟩
    · rw [if_neg hi] at this
      exact ⟨fun _ => this, fun z => absurd hi z⟩
  unfold J_X8_page_11
  rw [ilt, ilt, ile, show (1 : Int32).toInt = 1 by decide, show (100 : Int32).toInt = 100 by decide, show (0 : Int32).toInt = 0 by decide]
  refine ⟨fun z => bad (by omega), fun z1 => ⟨fun z => bad (by omega), fun z2 => ⟨fun z3 => ?_, fun z => bad (by omega)⟩⟩⟩
  obtain ⟨q1, q2, q3⟩ := l_mul (n := n) (k := k) (by omega) (by omega) z3
  refine ⟨h.1.k 0 (by decide) rfl, c 1, h.1.r 0 0 1 (by decide), c s, h.1.2.2.2.1.2.1, c 22, h.1.r 0 11 22 (by decide), h.1.k 22 (by decide) rfl, h.gather (Or.inl rfl) Ag.rf hg hsh (fun σ' h' hA _ hP => ⟨h'.1.k 0 (by decide) rfl, c 22, h'.1.r 0 11 22 (by decide), h'.1.k 22 (by decide) rfl, X1_length hP ?_⟩)⟩
  replace hp := hp σ' h' hA
  generalize cut (gM g.1 sh x).1 = len at hp hP hcl ⊢
  generalize mk1 (gM g.1 sh x).1 = mk at hp hP ⊢
  have hX : ((Int32.toInt64 (nI len)) - ((Int32.toInt64 k) * (Int32.toInt64 n))).toInt = (len : Int) - k.toInt * n.toInt := by
    have e1 : (Int32.toInt64 (nI len)).toInt = (len : Int) := by rw [i64of, nIi (by omega)]
    rw [lsub (by rw [e1, q1]; omega) (by rw [e1, q1]; omega), e1, q1]
  generalize (Int32.toInt64 (nI len)) - ((Int32.toInt64 k) * (Int32.toInt64 n)) = X at hX ⊢
  have hV : (if (if X < Int32.toInt64 n then X else Int32.toInt64 n) < (0 : Int64) then (0 : Int64) else (if X < Int32.toInt64 n then X else Int32.toInt64 n)).toInt = mny len n k := by
    have hmn : mny len n k = if (len : Int) - k.toInt * n.toInt < n.toInt then (if (len : Int) - k.toInt * n.toInt < 0 then 0 else (len : Int) - k.toInt * n.toInt) else n.toInt := by
      unfold mny
      exact if_pos ⟨by omega, by omega, by omega⟩
    rw [hmn]
    have e0 : (0 : Int64).toInt = 0 := by decide
    by_cases w1 : X < Int32.toInt64 n
    · rw [if_pos w1]
      rw [i64lt, hX, i64of] at w1
      rw [if_pos w1]
      by_cases w2 : X < (0 : Int64)
      · rw [if_pos w2]
        rw [i64lt, hX, e0] at w2
        rw [if_pos w2, e0]
      · rw [if_neg w2]
        rw [i64lt, hX, e0] at w2
        rw [if_neg w2, hX]
    · rw [if_neg w1]
      rw [i64lt, hX, i64of] at w1
      rw [if_neg w1, if_neg (by rw [i64lt, i64of, e0]; omega), i64of]
  generalize (if (if X < Int32.toInt64 n then X else Int32.toInt64 n) < (0 : Int64) then (0 : Int64) else (if X < Int32.toInt64 n then X else Int32.toInt64 n)) = V at hV ⊢
  have hm := mny_in len n k
  unfold oPage at hp
  rw [y00]
  refine ⟨fun z => ?_, fun z => ?_⟩
  · rw [if_neg z] at hp
    rw [ilt, show (0 : Int32).toInt = 0 by decide]
    refine ⟨fun w => ?_, fun w => ?_⟩
    · rwa [if_neg (by omega)] at hp
    · rw [lg_cmp_ge, i64le, hV, i64of]
      refine ⟨fun v => ?_, fun v => ⟨h'.1.k 0 (by decide) rfl, c 22, h'.1.r 0 11 22 (by decide), h'.1.k 22 (by decide) rfl, X1_at hP ?_⟩⟩
      · rwa [if_neg (by omega)] at hp
      · rw [if_pos (by omega)] at hp
        obtain ⟨u1, u2, u3, u4, u5, u6⟩ := mny_pos hcl (show 0 ≤ i.toInt by omega) (show i.toInt < mny len n k by omega)
        have e1 : (Int64.toInt32 ((Int32.toInt64 k) * (Int32.toInt64 n))).toInt = k.toInt * n.toInt := by
          rw [Int64.toInt_toInt32, q1]
          exact ibm (by omega) (by omega)
        have e2 : ((Int64.toInt32 ((Int32.toInt64 k) * (Int32.toInt64 n))) + i).toInt = k.toInt * n.toInt + i.toInt := by
          rw [iadd (by rw [e1]; omega) (by rw [e1]; omega), e1]
        unfold oAt
        rw [icl, e2, if_pos (by omega)]
        exact hp
  · rw [if_pos (Classical.not_not.mp z)] at hp
    have e1 : Int64.toInt32 V = nI (mny len n k).toNat := by
      rw [ieq, Int64.toInt_toInt32, hV, nIi (by omega), ibm (by omega) (by omega)]
      omega
    rw [e1]; exact hp
theorem T8_page {x n k i : Int32} {post : Int32 → Hp → Prop} (h : T8 σ c s g t sh rl sc) (hg : WFR g.1) (hsh : SHok sh) (hp : ∀ σ', T8 σ' c s g t sh rl sc → Ag (S8 c rl.1) (S8 c rl.1) σ σ' → post (oPage (cut (gM g.1 sh x).1) (mk1 (gM g.1 sh x).1) n k i) σ') : P_X8_page (c 0) x n k i σ post := by
  unfold P_X8_page
  exact ⟨fun z => h.pageJ hg hsh (by rw [if_neg z]) hp, fun z => h.pageJ hg hsh (by rw [if_pos z]) hp⟩
end PAGE8
