/-! the class's paper: the row around a mark, a value put, another paper taken -/
theorem nI_mm (k : Nat) : nI k + (-1 : Int32) = nI k - 1 := by rw [Int32.sub_eq_add_neg]
theorem arnd_s (mk : Nat → Int32) (k en : Nat) : arnd mk (k + 1) en = if mk k = 30000 then arnd mk k (en + 1) else if 10000 ≤ (mk k).toInt ∧ (mk k).toInt < 20000 then (match en with | 0 => mk k - 10000 | m + 1 => arnd mk k m) else arnd mk k en := rfl
theorem X1_rowAround {σ : Hp} {b m len : Nat} {mk : Nat → Int32} {x : Int32} {post : Int32 → Hp → Prop} (h : PP σ b m len mk) (hx : 0 ≤ x.toInt ∧ x.toInt < len) (hp : post (arnd mk x.toNatClampNeg 0) σ) : P_X1_rowAround b x σ post := by
  have hlen : len ≤ 600 := h.2.2.2.2.1
  unfold P_X1_rowAround
  have e0 : (0 : Int32).toInt = 0 := by decide
  have hs : (if (gi σ b 1) < (if x < (0 : Int32) then (0 : Int32) else x) then (gi σ b 1) else (if x < (0 : Int32) then (0 : Int32) else x)) = nI x.toNatClampNeg := by
    rw [nI_cl hx.1, h.2.2.2.1, if_neg (show ¬ x < 0 by rw [ilt, e0]; omega), if_neg (by rw [ilt, nIi (by omega)]; omega)]
  rw [hs]
  refine ⟨h.1, ?_⟩
  intro I hI
  have key : ∀ k en, k ≤ len → en + k ≤ 600 → post (arnd mk k en) σ → I (nI en) (nI k - 1) σ := by
    intro k
    induction k with
    | zero =>
      intro en hk hen hp
      exact hI _ _ _ ⟨fun _ => hp, fun z => absurd (by decide) z⟩
    | succ k ih =>
      intro en hk hen hp
      have hkt : (nI k).toInt = (k : Int) := nIi (by omega)
      rw [nI_pred]
      rw [arnd_s] at hp
      refine hI _ _ _ ⟨fun z => absurd z (nI_pos (by omega)), fun _ => ⟨h.1, X1_at h ?_⟩⟩
      unfold oAt
      rw [if_pos (by omega), clN (by omega), nI_mm, ilt, ile, show (10000 : Int32).toInt = 10000 by decide, show (20000 : Int32).toInt = 20000 by decide]
      refine ⟨fun z => ⟨fun w => ?_, fun w => ⟨fun v => ?_, fun v => ⟨fun u => ?_, fun u => ?_⟩⟩⟩, fun z => ?_⟩
      · rw [if_neg z, if_neg (by omega)] at hp
        exact ih en (by omega) (by omega) hp
      · rw [if_neg z, if_neg (by omega)] at hp
        exact ih en (by omega) (by omega) hp
      · rw [if_neg z, if_pos (by omega)] at hp
        obtain ⟨m', rfl⟩ : ∃ m', en = m' + 1 := ⟨en - 1, by
          have : en ≠ 0 := fun y => u (by rw [y]; rfl)
          omega⟩
        rw [pk_m1]
        exact ih m' (by omega) (by omega) hp
      · rw [if_neg z, if_pos (by omega)] at hp
        rw [show (0 : Int32) = nI 0 from rfl, nI_k (by omega) (by decide)] at u
        subst u
        exact hp
      · rw [if_pos z] at hp
        rw [nI_1]
        exact ih (en + 1) (by omega) (by omega) hp
  exact key _ 0 (by rw [icl]; omega) (by rw [icl]; omega) hp
theorem X1_isValueAt {σ : Hp} {b m len : Nat} {mk : Nat → Int32} {x : Int32} {post : Int32 → Hp → Prop} (h : PP σ b m len mk) (hp : post (if isV (oAt len mk x) then 1 else 0) σ) : P_X1_isValueAt b x σ post := by
  refine ⟨h.1, X1_at h (X8_isValue ?_)⟩
  by_cases hv : isV (oAt len mk x)
  · rw [if_pos hv] at hp
    rw [if_pos hv]; exact ⟨Or.inr rfl, hp⟩
  · rw [if_neg hv] at hp
    rw [if_neg hv]; exact ⟨Or.inl rfl, hp⟩
theorem X1_put {σ : Hp} {b m len : Nat} {mk : Nat → Int32} {x v : Int32} {post : Hp → Prop} (h : PP σ b m len mk) (hx : 0 ≤ x.toInt ∧ x.toInt < len) (hp : post (si σ m x.toNatClampNeg v)) : P_X1_put b x v σ post := by
  have hlen : len ≤ 600 := h.2.2.2.2.1
  unfold P_X1_put
  rw [h.2.2.2.1, ilt, ile, nIi (show len < 2147483648 by omega), show (0 : Int32).toInt = 0 by decide]
  refine ⟨fun z => absurd hx.1 (by omega), fun _ => ⟨h.1, fun z => absurd hx.2 (by omega), fun _ => ⟨m, h.2.1, 600, h.2.2.1, fun z => ?_, fun _ => ⟨vin hx.1 (by omega), hp⟩⟩⟩⟩
  rw [ile, ofn, nIi (by decide)] at z; omega
theorem X1_takeFrom {σ : Hp} {b1 m1 l1 b2 m2 l2 : Nat} {k1 k2 : Nat → Int32} {post : Hp → Prop} (h1 : PP σ b1 m1 l1 k1) (h2 : PP σ b2 m2 l2 k2) (hd : b1 ≠ b2 ∧ m1 ≠ m2 ∧ b1 ≠ m1 ∧ b1 ≠ m2 ∧ b2 ≠ m1) (hp : ∀ σ', Ag (fun q => q = b1 ∨ q = m1) (fun _ => False) σ σ' → PP σ' b1 m1 l2 k2 → post σ') : P_X1_takeFrom b1 b2 σ post := by
  have a2 : l2 ≤ 600 := h2.2.2.2.2.1
  obtain ⟨d1, d2, d3, d4, d5⟩ := hd
  unfold P_X1_takeFrom
  refine ⟨h2.1, h1.1, ?_⟩
  rw [h2.2.2.2.1]
  intro I hI
  have key : ∀ m v σ', v + m = l2 → Ag (fun q => q = b1 ∨ q = m1) (fun _ => False) σ σ' → gk σ' b1 = some (1, 0) → gr σ' b1 0 = some m1 → gk σ' m1 = some (10, 600) → gi σ' b1 1 = nI l2 → (∀ k, k < v → gi σ' m1 k = k2 k) → PP σ' b2 m2 l2 k2 → I (nI v) σ' := by
    intro m
    induction m with
    | zero =>
      intro v σ' hv hA q1 q2 q3 q4 q5 hP
      obtain rfl : v = l2 := by omega
      refine hI _ _ ⟨q1, fun _ => hp σ' hA ⟨q1, q2, q3, q4, a2, q5⟩, fun z => ?_⟩
      rw [q4] at z
      exact absurd (nI_le (Nat.le_refl _) (by omega)) z
    | succ m ih =>
      intro v σ' hv hA q1 q2 q3 q4 q5 hP
      have hvt : (nI v).toInt = (v : Int) := nIi (by omega)
      refine hI _ _ ⟨q1, fun z => ?_, fun _ => ⟨m1, q2, 600, q3, fun z => ?_, fun _ => ⟨hP.1, X1_at hP ⟨600, q3, vinN (by omega) (by decide), ?_⟩⟩⟩⟩
      · rw [q4] at z
        exact absurd z (nI_ge (by omega) (by omega))
      · rw [ile, ofn, hvt, nIi (by decide)] at z; omega
      · unfold oAt
        rw [if_pos (by omega), clN (by omega), nI_1]
        obtain ⟨p1, p2, p3, p4, p5, p6⟩ := hP
        refine ih (v + 1) _ (by omega) (hA.wi _ (Or.inl (Or.inr rfl))) q1 q2 q3 (by rw [gi_sa d3]; exact q4) (fun k hk => ?_) ⟨p1, p2, p3, by rw [gi_sa d5]; exact p4, p5, fun k hk => by rw [gi_sa (Ne.symm d2)]; exact p6 k hk⟩
        by_cases hkv : k = v
        · rw [hkv]; exact gi_ss
        · rw [gi_sk hkv]; exact q5 k (by omega)
  obtain ⟨p1, p2, p3, p4, p5, p6⟩ := h2
  exact key l2 0 _ (by omega) (Ag.rf.wi _ (Or.inl (Or.inl rfl))) h1.1 h1.2.1 h1.2.2.1 gi_ss (fun k hk => absurd hk (Nat.not_lt_zero _)) ⟨p1, p2, p3, by rw [gi_sa (Ne.symm d1)]; exact p4, p5, fun k hk => by rw [gi_sa (Ne.symm d4)]; exact p6 k hk⟩
