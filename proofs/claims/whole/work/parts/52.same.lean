/-! same -/
abbrev eqp (l1 l2 : Nat) (f h : Nat → Int32) : Prop := l1 = l2 ∧ ∀ k, k < l1 → f k = h k
theorem X1_hasMarksOf {σ : Hp} {b1 m1 l1 b2 m2 l2 : Nat} {k1 k2 : Nat → Int32} {post : Int32 → Hp → Prop} (h1 : PP σ b1 m1 l1 k1) (h2 : PP σ b2 m2 l2 k2) (hy : eqp l1 l2 k1 k2 → post 1 σ) (hn : ¬ eqp l1 l2 k1 k2 → post 0 σ) : P_X1_hasMarksOf b1 b2 σ post := by
  have a1 : l1 ≤ 600 := h1.2.2.2.2.1
  have a2 : l2 ≤ 600 := h2.2.2.2.2.1
  unfold P_X1_hasMarksOf
  rw [h1.2.2.2.1, h2.2.2.2.1, nI_k (by omega) (by omega)]
  refine ⟨h1.1, h2.1, fun z => ?_, fun z => hn (fun y => z y.1)⟩
  intro I hI
  have key : ∀ m v, v + m = l1 → (∀ k, k < v → k1 k = k2 k) → I (nI v) σ := by
    intro m
    induction m with
    | zero =>
      intro v hv hq
      obtain rfl : v = l1 := by omega
      refine hI _ _ ⟨h1.1, fun _ => hy ⟨z, hq⟩, fun y => ?_⟩
      rw [h1.2.2.2.1] at y
      exact absurd (nI_le (Nat.le_refl _) (by omega)) y
    | succ m ih =>
      intro v hv hq
      have hvt : (nI v).toInt = (v : Int) := nIi (by omega)
      refine hI _ _ ⟨h1.1, fun y => ?_, fun _ => ⟨fun y => ?_, fun _ => X1_at h1 ⟨h2.1, X1_at h2 ?_⟩⟩⟩
      · rw [h1.2.2.2.1] at y
        exact absurd y (nI_ge (by omega) (by omega))
      · rw [ile, hvt, show (600 : Int32).toInt = 600 by decide] at y; omega
      · unfold oAt
        rw [if_pos (by omega), if_pos (by omega), clN (by omega), nI_1]
        refine ⟨fun y => ih (v + 1) (by omega) (fun k hk => ?_), fun y => hn (fun w => y (w.2 v (by omega)))⟩
        by_cases hkv : k = v
        · rw [hkv]; exact y
        · exact hq k (by omega)
  exact key l1 0 (by omega) (fun k hk => absurd hk (Nat.not_lt_zero _))
section SAME
variable {σ σ' σ0 : Hp} {a : Nat} {e : Nat → Nat} {c : Nat → Nat} {s : Nat} {g : G1} {t : G2} {sh : SHT} {rl : RLT} {sc : SCT}
/-- the paper that reader j is of -/
abbrev gR (g : G1) (sh : SHT) (rl : RLT) (j : Nat) : PST := gM g.1 sh (nI (rl.2 j).1)
abbrev hld (g : G1) (sh : SHT) (rl : RLT) (j : Nat) : Prop := eqp (cut (gR g sh rl j).1) (rl.2 j).2.1 (mk1 (gR g sh rl j).1) (rl.2 j).2.2.1
def oSame (g : G1) (sh : SHT) (rl : RLT) (x : Int32) : Int32 := if isRd rl x then (if hld g sh rl x.toNatClampNeg then 1 else 0) else -1
theorem T8_same {n : Nat} {x : Int32} {post : Int32 → Hp → Prop} (h : T8 σ c s g t sh rl sc) (hg : WFR g.1) (hsh : SHok sh) (hn : RLok n rl) (hp : ∀ σ', T8 σ' c s g t sh rl sc → Ag (S8 c rl.1) (S8 c rl.1) σ σ' → post (oSame g sh rl x) σ') : P_X8_same (c 0) x σ post := by
  unfold P_X8_same
  unfold oSame at hp
  refine ⟨h.1.k 0 (by decide) rfl, X8_readerAt h ?_⟩
  by_cases hr : isRd rl x
  rotate_left
  · rw [if_neg hr] at hp
    rw [if_neg hr]
    exact ⟨fun _ => hp _ h Ag.rf, fun b z => by cases z⟩
  rw [if_pos hr] at hp
  rw [if_pos hr]
  have hj : x.toNatClampNeg < rl.1 := by rw [icl]; have := hr.2; omega
  have hk := k8_rd hj
  obtain ⟨r1, r2, r3⟩ := h.1.2.2.2.2.1 _ hj
  refine ⟨fun z => (by cases z), fun b hb => ?_⟩
  cases hb
  refine ⟨h.1.k 0 (by decide) rfl, h.1.1 _ _ hk.1, c 1, h.1.r 0 0 1 (by decide), c s, h.1.2.2.2.1.2.1, c 22, h.1.r 0 11 22 (by decide), h.1.k 22 (by decide) rfl, ?_⟩
  rw [(h.2.2.2.2.2.1 _ hj).1]
  refine h.gather (Or.inl rfl) Ag.rf hg hsh (fun σ' h' hA _ hP => ⟨h'.1.k 0 (by decide) rfl, h'.1.1 _ _ hk.1, _, (h'.1.2.2.2.2.1 _ hj).2.1, c 22, h'.1.r 0 11 22 (by decide), h'.1.k 22 (by decide) rfl, X1_hasMarksOf hP (h'.pap hn hj) (fun y => ?_) (fun y => ?_)⟩)
  · rw [if_pos y] at hp
    exact ⟨fun z => absurd z (by decide), fun _ => hp _ h' hA⟩
  · rw [if_neg y] at hp
    exact ⟨fun _ => hp _ h' hA, fun z => absurd rfl z⟩
theorem N9.isHeld {n : Nat} {x : Int32} {st : PST} {k : Nat} {fr : FRT} {post : Int32 → Hp → Prop} (h : N9 σ0 a e g t sh rl sc σ st k fr) (hn : RLok n rl) (hr : isRd rl x) (hy : eqp (cut st.1) (rl.2 x.toNatClampNeg).2.1 (mk1 st.1) (rl.2 x.toNatClampNeg).2.2.1 → post 1 σ) (h0 : ¬ eqp (cut st.1) (rl.2 x.toNatClampNeg).2.1 (mk1 st.1) (rl.2 x.toNatClampNeg).2.2.1 → post 0 σ) : P_X9_isHeld a x σ post := by
  have hL := h.1.1
  obtain ⟨m1, m2, m3⟩ := h.2.2.2.2.1
  have hcl := cut_le st.1
  have h10 := hn.1
  have hr' : 0 ≤ x.toInt ∧ x.toInt < rl.1 := hr
  have hj : x.toNatClampNeg < rl.1 := by rw [icl]; omega
  obtain ⟨j1, j2, j3⟩ := h.1.2.2.2.2.2.1.2.1 _ hj
  have h6 := (hn.2 _ hj).2.1
  have off : ¬ eqp (cut st.1) (rl.2 x.toNatClampNeg).2.1 (mk1 st.1) (rl.2 x.toNatClampNeg).2.2.1 → ∀ I : Int32 → Int32 → Hp → Prop, (∀ w0 w1 τ, F_X9_isHeld_21 a x post I w0 w1 τ → I w0 w1 τ) → ∀ v, I 0 v σ := fun hne I hI v => by
    exact hI _ _ _ ⟨hL.1, fun _ => ⟨Or.inl rfl, h0 hne⟩, fun _ => ⟨fun _ => ⟨Or.inl rfl, h0 hne⟩, fun z => absurd rfl z⟩⟩
  unfold P_X9_isHeld
  refine ⟨hL.1, e 50, hL.r 50 rfl, 10, hL.k 50 rfl, vin (by omega) (by omega), fun z => ?_, fun z => ?_⟩
  · rw [j2, m1, nI_k (by omega) (by omega)] at z
    intro I hI
    exact off (fun y => z y.1.symm) I hI 0
  · rw [j2, m1, nI_k (by omega) (by omega)] at z
    intro I hI
    have key : ∀ m v, v + m = cut st.1 → (∀ k, k < v → mk1 st.1 k = (rl.2 x.toNatClampNeg).2.2.1 k) → I 1 (nI v) σ := by
      intro m
      induction m with
      | zero =>
        intro v hv hq
        obtain rfl : v = cut st.1 := by omega
        refine hI _ _ _ ⟨hL.1, fun _ => ⟨Or.inr rfl, hy ⟨z.symm, hq⟩⟩, fun y => ?_⟩
        rw [m1] at y
        exact absurd (nI_le (Nat.le_refl _) (by omega)) y
      | succ m ih =>
        intro v hv hq
        have hvt : (nI v).toInt = (v : Int) := nIi (by omega)
        have hm : ((600 : Int32) * x) + nI v = nI (600 * x.toNatClampNeg + v) := by
          rw [← nI_add, ← pk_mul, nI_cl hr'.1]; rfl
        refine hI _ _ _ ⟨hL.1, fun y => ?_, fun _ => ⟨fun y => absurd y (by decide), fun _ => ⟨e 51, hL.r 51 rfl, 6000, hL.k 51 rfl, ?_⟩⟩⟩
        · rw [m1] at y
          exact absurd y (nI_ge (by omega) (by omega))
        · rw [hm, clN (show 600 * x.toNatClampNeg + v < 2147483648 by omega), clN (show v < 2147483648 by omega), nI_1]
          refine ⟨vinN (by omega) (by decide), e 41, hL.r 41 rfl, 600, hL.k 41 rfl, vinN (by omega) (by decide), ?_⟩
          rw [(j3 v (by omega)).1, (m2 v (by omega)).1]
          refine ⟨fun y => off (fun w => y (w.2 v (by omega)).symm) I hI _, fun y => ih (v + 1) (by omega) (fun k hk => ?_)⟩
          by_cases hkv : k = v
          · rw [hkv]; exact y.symm
          · exact hq k (by omega)
    exact key (cut st.1) 0 (by omega) (fun k hk => absurd hk (Nat.not_lt_zero _))
theorem T9_same {n : Nat} {x : Int32} {post : Int32 → Hp → Prop} (h : T9 σ a e g t sh rl sc) (hg : WFR g.1) (hsh : SHok sh) (hn : RLok n rl) (hp : ∀ σ', T9 σ' a e g t sh rl sc → SK σ σ' → Fr (W9 a e) σ σ' → post (oSame g sh rl x) σ') : P_X9_same a x σ post := by
  unfold P_X9_same
  have hT := h.thr 0
  have hs : SK σ (si σ a 0 0) := SK.wi _ _ _
  have hf : Fr (W9 a e) σ (si σ a 0 0) := Fr.rf.ob _ _
  refine ⟨h.1.1, ?_⟩
  generalize si σ a 0 0 = σ1 at hT hs hf ⊢
  unfold oSame at hp
  have h10 := hn.1
  refine X9_isReader hT h10 ?_
  by_cases hr : isRd rl x
  rotate_left
  · rw [if_neg hr] at hp
    rw [if_neg hr]
    exact ⟨fun z => absurd rfl z, fun _ => hp _ hT hs hf⟩
  rw [if_pos hr] at hp
  rw [if_pos hr]
  have hr' : 0 ≤ x.toInt ∧ x.toInt < rl.1 := hr
  have hj : x.toNatClampNeg < rl.1 := by rw [icl]; omega
  refine ⟨fun _ => ⟨hT.1.1, e 49, hT.1.r 49 rfl, 10, hT.1.k 49 rfl, vin (by omega) (by omega), ?_⟩, fun z => absurd z (by decide)⟩
  rw [(hT.2.2.2.2.2.1.2.1 _ hj).1]
  refine hT.make hg hsh (fun σ' h' => ⟨h'.1.1.1, h'.isHeld hn hr (fun y => ?_) (fun y => ?_)⟩)
  · rw [if_pos y] at hp
    exact ⟨fun z => absurd z (by decide), fun _ => hp _ h'.1 (hs.tr h'.2.1) (hf.tr h'.2.2.1)⟩
  · rw [if_neg y] at hp
    exact ⟨fun _ => hp _ h'.1 (hs.tr h'.2.1) (hf.tr h'.2.2.1), fun z => absurd rfl z⟩
end SAME
section CALLS
variable {σ : Hp} {a8 a9 : Nat} {K : Hp → Prop}
theorem call_same {x1 : Int32} (h : TIE a8 a9 σ) (hK : ∀ σ', TIE a8 a9 σ' → K σ') {Q8 : Int32 → Hp → Prop} (hQ : ∀ r1 σ1, (gk σ1 a9 = some (9, 0) ∧ P_X9_same a9 x1 σ1 (fun r2 σ2 => (r1 = r2 → K σ2) ∧ (¬ r1 = r2 → False))) → Q8 r1 σ1) : P_X8_same a8 x1 σ Q8 := by
  obtain ⟨c, e, s, g, t, sh, rl, sc, rfl, hT8, hT9, hdis, hg, hsh, hrl⟩ := h
  exact both (P9 := fun σ1 post => P_X9_same a9 x1 σ1 post) hT8 hT9 hdis hg hsh hrl (fun post hp => T8_same hT8 hg.wf hsh hrl hp) (fun σ1 post h9 hp => T9_same h9 hg.wf hsh hrl hp) hK hQ
end CALLS
