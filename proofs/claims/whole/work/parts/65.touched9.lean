section TOUCH9
variable {σ σ' σ0 : Hp} {a : Nat} {e : Nat → Nat} {g : G1} {t : G2} {sh : SHT} {rl : RLT} {sc : SCT} {ρ : RM}
theorem R9.val (h : R9 σ a e ρ) (hL : L9 σ a e) {i : Nat} {v : Int32} (hi : i < ρ.1) : R9 (si σ (e 11) i v) a e (rhV ρ i v) := by
  obtain ⟨h1, h2, h3⟩ := h
  refine ⟨by rw [hL.eo (by decide), rhV_1 hi]; exact h1, by rw [rhV_1 hi]; exact h2, fun j hj => ?_⟩
  rw [rhV_1 hi] at hj
  obtain ⟨w1, w2, w3, w4, w5⟩ := h3 j hj
  rw [hL.ea (i := 10) (by decide) (by decide) (by decide), hL.ea (i := 12) (by decide) (by decide) (by decide), hL.ea (i := 12) (by decide) (by decide) (by decide), hL.ea (i := 13) (by decide) (by decide) (by decide)]
  unfold rhV
  rw [setR_2]
  by_cases hji : j = i
  · subst hji
    rw [if_pos rfl, gi_ss]
    exact ⟨w1, rfl, w3, w4, w5⟩
  · rw [if_neg hji, gi_sk hji]
    exact ⟨w1, w2, w3, w4, w5⟩
theorem R9.vb {i : Nat} {v : Int32} (hi : i < ρ.1) (h : R9 σ a e (rhV ρ i v)) (hL : L9 σ a e) : R9 (si σ (e 11) i (ρ.2 i).2.1) a e ρ := by
  obtain ⟨h1, h2, h3⟩ := h
  rw [rhV_1 hi] at h1 h2 h3
  refine ⟨by rw [hL.eo (by decide)]; exact h1, h2, fun j hj => ?_⟩
  obtain ⟨w1, w2, w3, w4, w5⟩ := h3 j hj
  unfold rhV at w1 w2 w3 w4 w5
  rw [setR_2] at w1 w2 w3 w4 w5
  rw [hL.ea (i := 10) (by decide) (by decide) (by decide), hL.ea (i := 12) (by decide) (by decide) (by decide), hL.ea (i := 12) (by decide) (by decide) (by decide), hL.ea (i := 13) (by decide) (by decide) (by decide)]
  by_cases hji : j = i
  · subst hji
    rw [if_pos rfl] at w1 w2 w3 w4 w5
    rw [gi_ss]
    exact ⟨w1, rfl, w3, w4, w5⟩
  · rw [if_neg hji] at w1 w2 w3 w4 w5
    rw [gi_sk hji]
    exact ⟨w1, w2, w3, w4, w5⟩
/-- the marks made are copied away -/
theorem N9.spare {x1 x2 u3 u4 u5 u6 : Int32} {post K : Int32 → Hp → Prop} {σx : Hp} {st : PST} {k : Nat} {fr : FRT} (h : N9 σx a e g t sh rl sc σ st k fr) (hu : u6 = nI (cut st.1)) (hs0 : SK σ0 σ) (hf0 : Fr (W9 a e) σ0 σ) (hK : ∀ v σ', T9 σ' a e g t sh rl sc → SK σ0 σ' → Fr (W9 a e) σ0 σ' → (∀ q, q < cut st.1 → gi σ' (e 54) q = mk1 st.1 q) → K v σ') : lfp1 (F_X9_touched_64 a x1 x2 u3 u4 u5 u6 post K) (0 : Int32) σ := by
  subst hu
  have hL := h.1.1
  obtain ⟨m1, m2, -⟩ := h.2.2.2.2.1
  have hcl := cut_le st.1
  have n54 : ∀ i, k9 i ≠ none → i ≠ 54 → e i ≠ e 54 := fun i hi h5 => hL.ne hi (by decide) h5
  have na54 : a ≠ e 54 := Ne.symm (hL.na 54 (by decide))
  intro I hI
  have key : ∀ m v σ', v + m = cut st.1 → SK σ σ' → Fr (W9 a e) σ0 σ' → (∀ b q, b ≠ e 54 → gi σ' b q = gi σ b q) → (∀ q, q < v → gi σ' (e 54) q = mk1 st.1 q) → I (nI v) σ' := by
    intro m
    induction m with
    | zero =>
      intro v σ' hv sk fr q1 q2
      obtain rfl : v = cut st.1 := by omega
      have hl : ∀ j ∈ [3, 4, 5, 6, 7, 8, 10, 11, 12, 13, 15, 16, 17, 18, 19, 20, 32, 49, 50, 51, 52], j ≠ 54 := by decide
      obtain ⟨s1, s2, s3⟩ := h.1.2.2.2.2.2.2
      exact hI _ _ ⟨fun _ => hK _ _ (h.1.scr sk (fun q _ => q1 a q na54) (fun j hj q => q1 _ q (n54 j (k9_l j hj) (hl j hj))) ⟨by rw [q1 a _ na54]; exact s1, by rw [q1 a _ na54]; exact s2, by rw [q1 a _ na54]; exact s3⟩) (hs0.tr sk) fr q2, fun z => absurd (nI_le (Nat.le_refl _) (by omega)) z⟩
    | succ m ih =>
      intro v σ' hv sk fr q1 q2
      have hL' := hL.sk sk
      refine hI _ _ ⟨fun z => absurd z (nI_ge (by omega) (by omega)), fun _ => ⟨hL'.1, e 41, hL'.r 41 rfl, 600, hL'.k 41 rfl, vinN (by omega) (by decide), e 54, hL'.r 54 rfl, 600, hL'.k 54 rfl, vinN (by omega) (by decide), ?_⟩⟩
      rw [clN (by omega), nI_1, q1 (e 41) v (n54 41 (by decide) (by decide)), (m2 v (by omega)).1]
      refine ih (v + 1) _ (by omega) (sk.tr (SK.wi _ _ _)) (fr.wi _ (Or.inr ⟨54, by decide, rfl⟩)) (fun b q hb => by rw [gi_sa hb]; exact q1 b q hb) (fun q hq => ?_)
      by_cases hqv : q = v
      · rw [hqv, gi_ss]
      · rw [gi_sk hqv]; exact q2 q (by omega)
  exact key (cut st.1) 0 σ (by omega) SK.rf hf0 (fun _ _ _ => rfl) (fun q hq => absurd hq (Nat.not_lt_zero _))
/-- the copied marks against those made now -/
theorem X9_cmp {x1 x2 u3 u4 u5 : Int32} {post : Int32 → Hp → Prop} {K : Int32 → Int32 → Hp → Prop} {n : Nat} {f h : Nat → Int32} (hL : L9 σ a e) (hn : n ≤ 600) (hf : ∀ q, q < n → gi σ (e 54) q = f q) (hh : ∀ q, q < n → gi σ (e 41) q = h q) (hy : (∀ q, q < n → f q = h q) → ∀ v, K 1 v σ) (h0 : ¬ (∀ q, q < n → f q = h q) → ∀ v, K 0 v σ) : lfp2 (F_X9_touched_136 a x1 x2 u3 u4 u5 (nI n) post K) (1 : Int32) (0 : Int32) σ := by
  intro I hI
  have key : ∀ m v, v + m = n → (∀ q, q < v → f q = h q) → I 1 (nI v) σ := by
    intro m
    induction m with
    | zero =>
      intro v hv hq
      obtain rfl : v = n := by omega
      exact hI _ _ _ ⟨fun _ => hy hq _, fun z => absurd (nI_le (Nat.le_refl _) (by omega)) z⟩
    | succ m ih =>
      intro v hv hq
      refine hI _ _ _ ⟨fun z => absurd z (nI_ge (by omega) (by omega)), fun _ => ⟨fun z => absurd z (by decide), fun _ => ⟨hL.1, e 54, hL.r 54 rfl, 600, hL.k 54 rfl, vinN (by omega) (by decide), e 41, hL.r 41 rfl, 600, hL.k 41 rfl, vinN (by omega) (by decide), ?_⟩⟩⟩
      rw [clN (by omega), nI_1, hf v (by omega), hh v (by omega)]
      refine ⟨fun z => ?_, fun z => ih (v + 1) (by omega) (fun q hq2 => ?_)⟩
      · have hne : ¬ (∀ q, q < n → f q = h q) := fun y => z (y v (by omega))
        exact hI _ _ _ ⟨fun _ => h0 hne _, fun _ => ⟨fun _ => h0 hne _, fun y => absurd rfl y⟩⟩
      · by_cases hqv : q = v
        · rw [hqv]; exact z
        · exact hq q (by omega)
  exact key n 0 (by omega) (fun q hq => absurd hq (Nat.not_lt_zero _))
theorem X9_cmp0 {x1 x2 u3 u4 u5 u6 : Int32} {post : Int32 → Hp → Prop} {K : Int32 → Int32 → Hp → Prop} (h0 : ∀ v, K 0 v σ) : lfp2 (F_X9_touched_136 a x1 x2 u3 u4 u5 u6 post K) (0 : Int32) (0 : Int32) σ := by
  intro I hI
  exact hI _ _ _ ⟨fun _ => h0 _, fun _ => ⟨fun _ => h0 _, fun y => absurd rfl y⟩⟩
theorem T9_touched {x v : Int32} {post : Int32 → Hp → Prop} (h : T9 σ a e g t sh rl sc) (hg : WFR g.1) (hsh : SHok sh) (hn : RLok g.1.1 rl) (hp : ∀ σ', T9 σ' a e g t sh rl sc → SK σ σ' → Fr (W9 a e) σ σ' → post (oTouch g.1 sh rl x v) σ') : P_X9_touched a x v σ post := by
  unfold P_X9_touched
  have hT := h.thr 0
  have hs : SK σ (si σ a 0 0) := SK.wi _ _ _
  have hf : Fr (W9 a e) σ (si σ a 0 0) := Fr.rf.ob _ _
  generalize si σ a 0 0 = σ1 at hT hs hf ⊢
  unfold oTouch at hp
  have h10 := hn.1
  have h60 := hg.1
  refine ⟨h.1.1, hT.isRow (fun hst => ⟨fun z => absurd z (by decide), fun _ => X9_isValue ?_⟩) (fun hst => ⟨fun _ => ?_, fun z => absurd rfl z⟩)⟩
  rotate_left
  · rw [if_neg (fun z => hst z.1)] at hp
    exact hp _ hT hs hf
  by_cases hv : isV v
  rotate_left
  · rw [if_neg hv]
    rw [if_neg (fun z => hv z.2)] at hp
    exact ⟨fun z => absurd rfl z, fun _ => hp _ hT hs hf⟩
  rw [if_pos hv]
  rw [if_pos ⟨hst, hv⟩] at hp
  have hi : x.toNatClampNeg < g.1.1 := by rw [icl]; have := hst.1; omega
  have hvx : vp_in x 60 := vin hst.1.1 (by have := hst.1; omega)
  refine ⟨fun _ => ⟨hT.1.1, e 11, hT.1.r 11 rfl, 60, hT.1.k 11 rfl, hvx, ?_⟩, fun z => absurd z (by decide)⟩
  rw [(hT.2.1.2.2 _ hi).2.1]
  have hW := rhV_ok hg hi hv
  intro I hI
  have key : ∀ m j b σ', j + m = rl.1 → T9 σ' a e g t sh rl sc → SK σ σ' → Fr (W9 a e) σ σ' → (∀ σ2, T9 σ2 a e g t sh rl sc → SK σ σ2 → Fr (W9 a e) σ σ2 → post (tco g.1 (rhV g.1 x.toNatClampNeg v) sh rl m j b) σ2) → I b (nI j) σ' := by
    intro m
    induction m with
    | zero =>
      intro j b σ' hj h' hs' hf' hp
      have q48 := h'.2.2.2.2.2.1.1
      refine hI _ _ _ ⟨h'.1.1, fun _ => hp σ' h' hs' hf', fun z => ?_⟩
      rw [q48] at z
      exact absurd (nI_le (by omega) (by omega)) z
    | succ m ih =>
      intro j b σ' hj h' hs' hf' hp
      have hjr : j < rl.1 := by omega
      obtain ⟨q1, q2, q3⟩ := h'.2.2.2.2.2.1
      have hcj : (nI j).toNatClampNeg = j := clN (by omega)
      have hvj : vp_in (nI j) 10 := vinN (by omega) (by decide)
      have hgo := ih (j + 1) (tc1 g.1 (rhV g.1 x.toNatClampNeg v) sh rl j b)
      have hp : ∀ σ2, T9 σ2 a e g t sh rl sc → SK σ σ2 → Fr (W9 a e) σ σ2 → post (tco g.1 (rhV g.1 x.toNatClampNeg v) sh rl m (j + 1) (tc1 g.1 (rhV g.1 x.toNatClampNeg v) sh rl j b)) σ2 := hp
      unfold tc1 at hgo hp
      refine hI _ _ _ ⟨h'.1.1, fun z => ?_, fun _ => ⟨e 49, h'.1.r 49 rfl, 10, h'.1.k 49 rfl, hvj, ?_⟩⟩
      · rw [q1] at z
        exact absurd z (nI_ge (by omega) (by omega))
      rw [hcj, (q2 j hjr).1, nI_1]
      refine h'.make hg hsh (fun σ2 h2 => ⟨h2.1.1.1, ?_⟩)
      have m40 := h2.2.2.2.2.1.1
      rw [m40]
      have hcl := cut_le (gM g.1 sh (nI (rl.2 j).1)).1
      refine h2.spare rfl (hs'.tr h2.2.1) (hf'.tr h2.2.2.1) (fun _ σ3 h3 hs3 hf3 h54 => ⟨h3.1.1, e 11, h3.1.r 11 rfl, 60, h3.1.k 11 rfl, hvx, e 49, h3.1.r 49 rfl, 10, h3.1.k 49 rfl, hvj, ?_⟩)
      rw [h3.1.ea (by decide) (by decide) (by decide), (h3.2.2.2.2.2.1.2.1 j hjr).1]
      have h4 : T9 (si σ3 (e 11) x.toNatClampNeg v) a e (rhV g.1 x.toNatClampNeg v, g.2) t sh rl sc := h3.rws (SK.wi _ _ _) (Fr.rf.wi _ (Or.inr (Or.inr (Or.inl rfl)))) (h3.2.1.val h3.1 hi)
      have h54' : ∀ q, q < cut (gM g.1 sh (nI (rl.2 j).1)).1 → gi (si σ3 (e 11) x.toNatClampNeg v) (e 54) q = mk1 (gM g.1 sh (nI (rl.2 j).1)).1 q := fun q hq => by
        rw [h3.1.ea (by decide) (by decide) (by decide)]; exact h54 q hq
      have hs4 : SK σ (si σ3 (e 11) x.toNatClampNeg v) := hs3.tr (SK.wi _ _ _)
      have hf4 : Fr (W9 a e) σ (si σ3 (e 11) x.toNatClampNeg v) := hf3.wi _ (Or.inr ⟨11, by decide, rfl⟩)
      generalize si σ3 (e 11) x.toNatClampNeg v = σ4 at h4 h54' hs4 hf4 ⊢
      refine h4.make hW hsh (fun σ5 h5 => ⟨h5.1.1.1, e 11, h5.1.1.r 11 rfl, 60, h5.1.1.k 11 rfl, hvx, ?_⟩)
      have n40 : gi σ5 a 40 = nI (cut (gM (rhV g.1 x.toNatClampNeg v) sh (nI (rl.2 j).1)).1) := h5.2.2.2.2.1.1
      have n41 : ∀ q, q < cut (gM (rhV g.1 x.toNatClampNeg v) sh (nI (rl.2 j).1)).1 → gi σ5 (e 41) q = mk1 (gM (rhV g.1 x.toNatClampNeg v) sh (nI (rl.2 j).1)).1 q := fun q hq => (h5.2.2.2.2.1.2.1 q hq).1
      have n54 : ∀ q, gi σ5 (e 54) q = gi σ4 (e 54) q := h5.2.2.2.1
      have hcl2 := cut_le (gM (rhV g.1 x.toNatClampNeg v) sh (nI (rl.2 j).1)).1
      rw [n40, nI_k (by omega) (by omega)]
      have h6 : T9 (si σ5 (e 11) x.toNatClampNeg (g.1.2 x.toNatClampNeg).2.1) a e g t sh rl sc := h5.1.rws (ρ := g.1) (SK.wi _ _ _) (Fr.rf.wi _ (Or.inr (Or.inr (Or.inl rfl)))) (R9.vb hi h5.1.2.1 h5.1.1)
      have hs6 : SK σ (si σ5 (e 11) x.toNatClampNeg (g.1.2 x.toNatClampNeg).2.1) := (hs4.tr h5.2.1).tr (SK.wi _ _ _)
      have hf6 : Fr (W9 a e) σ (si σ5 (e 11) x.toNatClampNeg (g.1.2 x.toNatClampNeg).2.1) := (hf4.tr h5.2.2.1).wi _ (Or.inr ⟨11, by decide, rfl⟩)
      have k41 : ∀ q, q < cut (gM (rhV g.1 x.toNatClampNeg v) sh (nI (rl.2 j).1)).1 → gi (si σ5 (e 11) x.toNatClampNeg (g.1.2 x.toNatClampNeg).2.1) (e 41) q = mk1 (gM (rhV g.1 x.toNatClampNeg v) sh (nI (rl.2 j).1)).1 q := fun q hq => by
        rw [h5.1.1.ea (by decide) (by decide) (by decide)]; exact n41 q hq
      have k54 : ∀ q, q < cut (gM g.1 sh (nI (rl.2 j).1)).1 → gi (si σ5 (e 11) x.toNatClampNeg (g.1.2 x.toNatClampNeg).2.1) (e 54) q = mk1 (gM g.1 sh (nI (rl.2 j).1)).1 q := fun q hq => by
        rw [h5.1.1.ea (by decide) (by decide) (by decide), n54]; exact h54' q hq
      generalize si σ5 (e 11) x.toNatClampNeg (g.1.2 x.toNatClampNeg).2.1 = σ6 at h6 hs6 hf6 k41 k54 ⊢
      have hgo := hgo σ6 (by omega) h6 hs6 hf6 hp
      refine ⟨fun z => ?_, fun z => ?_⟩
      · rw [if_neg (fun y => z y.1)] at hgo
        exact X9_cmp0 (fun _ => ⟨fun _ => hgo, fun y => absurd rfl y⟩)
      · refine X9_cmp h6.1 hcl k54 (fun q hq => k41 q (by rw [← z]; exact hq)) (fun y _ => ⟨fun w => absurd w (by decide), fun _ => ?_⟩) (fun y _ => ⟨fun _ => ?_, fun w => absurd rfl w⟩)
        · rw [if_pos ⟨z, y⟩] at hgo
          rw [Int32.or_zero]; exact hgo
        · rw [if_neg (fun w => y w.2)] at hgo
          exact hgo
  exact key rl.1 0 0 σ1 (by omega) hT hs hf hp
end TOUCH9
section CALLS
variable {σ : Hp} {a8 a9 : Nat} {K : Hp → Prop}
theorem call_touched {x1 x2 : Int32} (h : TIE a8 a9 σ) (hK : ∀ σ', TIE a8 a9 σ' → K σ') {Q8 : Int32 → Hp → Prop} (hQ : ∀ r1 σ1, (gk σ1 a9 = some (9, 0) ∧ P_X9_touched a9 x1 x2 σ1 (fun r2 σ2 => (r1 = r2 → K σ2) ∧ (¬ r1 = r2 → False))) → Q8 r1 σ1) : P_X8_touched a8 x1 x2 σ Q8 := by
  obtain ⟨c, e, s, g, t, sh, rl, sc, rfl, hT8, hT9, hdis, hg, hsh, hrl⟩ := h
  exact both (P9 := fun σ1 post => P_X9_touched a9 x1 x2 σ1 post) hT8 hT9 hdis hg hsh hrl (fun post hp => T8_touched hT8 hg.wf hsh hp) (fun σ1 post h9 hp => T9_touched h9 hg.wf hsh hrl hp) hK hQ
end CALLS
