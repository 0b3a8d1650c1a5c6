section SEND9
variable {σ σ' σ0 : Hp} {a : Nat} {e : Nat → Nat} {g : G1} {t : G2} {sh : SHT} {rl : RLT} {sc : SCT}
theorem T9.snd (h : T9 σ a e g t sh rl sc) {n : Nat} (hn : RLok n rl) {j : Nat} (hj : j < rl.1) {v : Int32} (hs : SK σ σ') (hc : ∀ k, k < 49 → gi σ' a k = gi σ a k) (h53 : gi σ' a 53 = v) (he : ∀ i, k9 i ≠ none → i < 50 → ∀ k, gi σ' (e i) k = gi σ (e i) k)
    (h50 : ∀ k, gi σ' (e 50) k = if k = j then nI (cut (gR g sh rl j).1) else gi σ (e 50) k) (h5 : ∀ k, k < cut (gR g sh rl j).1 → gi σ' (e 51) (600 * j + k) = mk1 (gR g sh rl j).1 k ∧ gi σ' (e 52) (600 * j + k) = mk2 (gR g sh rl j).1 k)
    (h5' : ∀ z, (z < 600 * j ∨ 600 * j + 600 ≤ z) → gi σ' (e 51) z = gi σ (e 51) z ∧ gi σ' (e 52) z = gi σ (e 52) z) : T9 σ' a e g t sh (rlS g sh rl j) (v, sc.2.1, sc.2.2) := by
  obtain ⟨s1, s2, s3⟩ := h.2.2.2.2.2.2
  obtain ⟨q1, q2, q3⟩ := h.2.2.2.2.2.1
  have h10 := hn.1
  refine h.rds hs (fun k hk => hc k (by simp at hk; omega)) (fun i hi k => he i (k9_r i hi).1 (by have := (k9_r i hi).2; omega) k) ⟨by rw [hc 48 (by omega)]; exact q1, fun i hi => ?_, fun i hi hi10 => ?_⟩ ⟨h53, by rw [hc 38 (by omega)]; exact s2, by rw [hc 1 (by omega)]; exact s3⟩
  · have hi : i < rl.1 := hi
    obtain ⟨w1, w2, w3⟩ := q2 i hi
    have h6 := (hn.2 i hi).2.1
    rw [he 49 (by decide) (by omega), h50]
    by_cases hij : i = j
    · subst hij
      rw [rlS_s, if_pos rfl]
      exact ⟨w1, rfl, h5⟩
    · rw [rlS_n _ _ _ hij, if_neg hij]
      exact ⟨w1, w2, fun k hk => by rw [(h5' _ (by omega)).1, (h5' _ (by omega)).2]; exact w3 k hk⟩
  · have hi : rl.1 ≤ i := hi
    rw [h50, if_neg (by omega)]; exact q3 i hi hi10
/-- the paper made is copied to reader j -/
theorem N9.copy {bits u : Int32} {post K : Int32 → Hp → Prop} {σx : Hp} {st : PST} {k : Nat} {fr : FRT} {n j : Nat} (h : N9 σx a e g t sh rl sc σ st k fr) (hn : RLok n rl) (hj : j < rl.1) (hst : st = gR g sh rl j) (hu : u = nI j) (hs0 : SK σ0 σ) (hf0 : Fr (W9 a e) σ0 σ) (hK : ∀ v σ', T9 σ' a e g t sh (rlS g sh rl j) (sc.1 + 1, sc.2.1, sc.2.2) → SK σ0 σ' → Fr (W9 a e) σ0 σ' → K v σ') :
    lfp1 (F_X9_send_66 a bits u post K) (0 : Int32) (si (si σ a 53 ((gi σ a 53) + (1 : Int32))) (e 50) j (gi σ a 40)) := by
  subst hst hu
  have hL := h.1.1
  have h10 := hn.1
  obtain ⟨m1, m2, -⟩ := h.2.2.2.2.1
  have hcl := cut_le (gR g sh rl j).1
  have e53 : gi σ a 53 = sc.1 := h.1.2.2.2.2.2.2.1
  rw [m1, e53]
  generalize hσa : si (si σ a 53 (sc.1 + (1 : Int32))) (e 50) j (nI (cut (gR g sh rl j).1)) = σa
  have skA : SK σ σa := by rw [← hσa]; exact (SK.wi _ _ _).tr (SK.wi _ _ _)
  have frA : Fr (W9 a e) σ0 σa := by rw [← hσa]; exact (hf0.ob _ _).wi _ (Or.inr ⟨50, by decide, rfl⟩)
  have n50 : ∀ i, k9 i ≠ none → i ≠ 50 → e i ≠ e 50 := fun i hi h5 => hL.ne hi (by decide) h5
  have na50 : a ≠ e 50 := Ne.symm (hL.na 50 (by decide))
  have g1 : ∀ q, q ≠ 53 → gi σa a q = gi σ a q := fun q hq => by rw [← hσa, gi_sa na50, gi_sk hq]
  have g2 : gi σa a 53 = sc.1 + 1 := by rw [← hσa, gi_sa na50, gi_ss]
  have g3 : ∀ i, k9 i ≠ none → i ≠ 50 → ∀ q, gi σa (e i) q = gi σ (e i) q := fun i hi h5 q => by rw [← hσa, gi_sa (n50 i hi h5), gi_sa (hL.na i hi)]
  have g4 : ∀ q, gi σa (e 50) q = if q = j then nI (cut (gR g sh rl j).1) else gi σ (e 50) q := fun q => by
    rw [← hσa, gi_si]
    by_cases hq : q = j
    · rw [if_pos ⟨rfl, hq⟩, if_pos hq]
    · rw [if_neg (fun z => hq z.2), if_neg hq, gi_sa (hL.na 50 (by decide))]
  clear hσa
  intro I hI
  have n12 : e 51 ≠ e 52 := hL.ne (by decide) (by decide) (by decide)
  have key : ∀ m v σ', v + m = cut (gR g sh rl j).1 → SK σa σ' → Fr (W9 a e) σa σ' → (∀ b q, b ≠ e 51 → b ≠ e 52 → gi σ' b q = gi σa b q) → (∀ q, q < v → gi σ' (e 51) (600 * j + q) = mk1 (gR g sh rl j).1 q ∧ gi σ' (e 52) (600 * j + q) = mk2 (gR g sh rl j).1 q) → (∀ z, (z < 600 * j ∨ 600 * j + 600 ≤ z) → gi σ' (e 51) z = gi σa (e 51) z ∧ gi σ' (e 52) z = gi σa (e 52) z) → I (nI v) σ' := by
    intro m
    induction m with
    | zero =>
      intro v σ' hv sk fr q1 q2 q3
      obtain rfl : v = cut (gR g sh rl j).1 := by omega
      have hL' := (hL.sk skA).sk sk
      have na51 : a ≠ e 51 := Ne.symm (hL.na 51 (by decide))
      have na52 : a ≠ e 52 := Ne.symm (hL.na 52 (by decide))
      refine hI _ _ ⟨hL'.1, fun _ => hK _ _ (h.1.snd hn hj (skA.tr sk) (fun q hq => ?_) ?_ (fun i hi h5 q => ?_) (fun q => ?_) q2 (fun z hz => ?_)) (hs0.tr (skA.tr sk)) (frA.tr fr), fun z => ?_⟩
      · rw [q1 a q na51 na52, g1 q (by omega)]
      · rw [q1 a 53 na51 na52, g2]
      · rw [q1 _ q (hL.ne hi (by decide) (by omega)) (hL.ne hi (by decide) (by omega)), g3 i hi (by omega)]
      · rw [q1 _ q (hL.ne (by decide) (by decide) (by decide)) (hL.ne (by decide) (by decide) (by decide)), g4]
      · rw [(q3 z hz).1, (q3 z hz).2, g3 51 (by decide) (by decide), g3 52 (by decide) (by decide)]
        exact ⟨rfl, rfl⟩
      · rw [q1 a 40 na51 na52, g1 40 (by decide), m1] at z
        exact absurd (nI_le (Nat.le_refl _) (by omega)) z
    | succ m ih =>
      intro v σ' hv sk fr q1 q2 q3
      have hL' := (hL.sk skA).sk sk
      have na51 : a ≠ e 51 := Ne.symm (hL.na 51 (by decide))
      have na52 : a ≠ e 52 := Ne.symm (hL.na 52 (by decide))
      have hm : ((600 : Int32) * nI j) + nI v = nI (600 * j + v) := by
        rw [← nI_add, ← pk_mul]; rfl
      have hb : 600 * j + v < 6000 := by omega
      have hvb := vinN (n := 6000) hb (by decide)
      refine hI _ _ ⟨hL'.1, fun z => ?_, fun _ => ⟨e 41, hL'.r 41 rfl, 600, hL'.k 41 rfl, vinN (by omega) (by decide), e 51, hL'.r 51 rfl, 6000, hL'.k 51 rfl, by rw [hm]; exact hvb, e 42, hL'.r 42 rfl, 600, hL'.k 42 rfl, vinN (by omega) (by decide), e 52, hL'.r 52 rfl, 6000, hL'.k 52 rfl, by rw [hm]; exact hvb, ?_⟩⟩
      · rw [q1 a 40 na51 na52, g1 40 (by decide), m1] at z
        exact absurd z (nI_ge (by omega) (by omega))
      · have n41 : ∀ i, k9 i ≠ none → i ≠ 51 → i ≠ 52 → e i ≠ e 51 ∧ e i ≠ e 52 := fun i hi h1 h2 => ⟨hL.ne hi (by decide) h1, hL.ne hi (by decide) h2⟩
        rw [hm, clN (show 600 * j + v < 2147483648 by omega), clN (show v < 2147483648 by omega), nI_1, gi_sa (n41 42 (by decide) (by decide) (by decide)).1]
        rw [q1 (e 41) v (n41 41 (by decide) (by decide) (by decide)).1 (n41 41 (by decide) (by decide) (by decide)).2, g3 41 (by decide) (by decide), (m2 v (by omega)).1, q1 (e 42) v (n41 42 (by decide) (by decide) (by decide)).1 (n41 42 (by decide) (by decide) (by decide)).2, g3 42 (by decide) (by decide), (m2 v (by omega)).2]
        refine ih (v + 1) _ (by omega) (sk.tr ((SK.wi _ _ _).tr (SK.wi _ _ _))) ((fr.wi _ (Or.inr ⟨51, by decide, rfl⟩)).wi _ (Or.inr ⟨52, by decide, rfl⟩)) (fun b q b1 b2 => ?_) (fun q hq => ?_) (fun z hz => ?_)
        · rw [gi_sa b2, gi_sa b1]; exact q1 b q b1 b2
        · rw [gi_sa n12]
          by_cases hqv : q = v
          · subst hqv
            rw [gi_ss, gi_ss]; exact ⟨rfl, rfl⟩
          · rw [gi_sk (by omega), gi_sk (by omega), gi_sk (by omega)]
            exact q2 q (by omega)
        · rw [gi_sa n12, gi_sk (by omega), gi_sk (by omega), gi_sk (by omega)]
          exact q3 z hz
  exact key (cut (gR g sh rl j).1) 0 σa (by omega) SK.rf Fr.rf (fun _ _ _ _ => rfl) (fun q hq => absurd hq (Nat.not_lt_zero _)) (fun _ _ => ⟨rfl, rfl⟩)
theorem T9_send {post : Int32 → Hp → Prop} (h : T9 σ a e g t sh rl sc) (hg : WFR g.1) (hsh : SHok sh) (hn : RLok g.1.1 rl) (hp : ∀ σ', T9 σ' a e g t sh (oSend g sh rl sc).1 ((oSend g sh rl sc).2.2, sc.2.1, sc.2.2) → SK σ σ' → Fr (W9 a e) σ σ' → post (oSend g sh rl sc).2.1 σ') : P_X9_send a σ post := by
  unfold P_X9_send
  have h10 := hn.1
  refine ⟨h.1.1, ?_⟩
  intro I hI
  have key : ∀ m v (x : SDT) σ', v + m = rl.1 → x.1.1 = rl.1 → RLok g.1.1 x.1 → T9 σ' a e g t sh x.1 (x.2.2, sc.2.1, sc.2.2) → SK σ σ' → Fr (W9 a e) σ σ' → (∀ σ2, T9 σ2 a e g t sh (sdo g sh m v x).1 ((sdo g sh m v x).2.2, sc.2.1, sc.2.2) → SK σ σ2 → Fr (W9 a e) σ σ2 → post (sdo g sh m v x).2.1 σ2) → I x.2.1 (nI v) σ' := by
    intro m
    induction m with
    | zero =>
      intro v x σ' hv hx hnx h' hs hf hp
      have q48 := h'.2.2.2.2.2.1.1
      refine hI _ _ _ ⟨h'.1.1, fun _ => hp σ' h' hs hf, fun z => ?_⟩
      rw [q48] at z
      exact absurd (nI_le (by omega) (by omega)) z
    | succ m ih =>
      intro v x σ' hv hx hnx h' hs hf hp
      have hvr : v < x.1.1 := by omega
      obtain ⟨q1, q2, q3⟩ := h'.2.2.2.2.2.1
      have hgo := ih (v + 1) (sd1 g sh v x)
      have hp : ∀ σ2, T9 σ2 a e g t sh (sdo g sh m (v + 1) (sd1 g sh v x)).1 ((sdo g sh m (v + 1) (sd1 g sh v x)).2.2, sc.2.1, sc.2.2) → SK σ σ2 → Fr (W9 a e) σ σ2 → post (sdo g sh m (v + 1) (sd1 g sh v x)).2.1 σ2 := hp
      refine hI _ _ _ ⟨h'.1.1, fun z => ?_, fun _ => ⟨e 49, h'.1.r 49 rfl, 10, h'.1.k 49 rfl, vinN (by omega) (by decide), ?_⟩⟩
      · rw [q1] at z
        exact absurd z (nI_ge (by omega) (by omega))
      have hcv : (nI v).toNatClampNeg = v := clN (by omega)
      rw [hcv, (q2 v hvr).1, nI_1]
      refine h'.make hg hsh (fun σ1 h1 => ⟨h1.1.1.1, ?_⟩)
      have hri : isRd x.1 (nI v) := ⟨by rw [nIi (by omega)]; omega, by rw [nIi (by omega)]; omega⟩
      refine h1.isHeld hnx hri (fun y => ?_) (fun y => ?_)
      · rw [hcv] at y
        have hs1 : sd1 g sh v x = x := by unfold sd1; rw [if_pos y]
        rw [hs1] at hgo hp
        exact ⟨fun z => absurd z (by decide), fun _ => hgo σ1 (by omega) hx hnx h1.1 (hs.tr h1.2.1) (hf.tr h1.2.2.1) hp⟩
      · rw [hcv] at y
        have hs1 : sd1 g sh v x = (rlS g sh x.1 v, x.2.1 ||| ((1 : Int32) <<< (nI v &&& 31)), x.2.2 + 1) := by unfold sd1; rw [if_neg y]
        rw [hs1] at hgo hp
        refine ⟨fun _ => ⟨h1.1.1.1, e 50, h1.1.1.r 50 rfl, 10, h1.1.1.k 50 rfl, vinN (by omega) (by decide), h1.copy hnx hvr rfl rfl (hs.tr h1.2.1) (hf.tr h1.2.2.1) (fun _ σ2 h2 hs2 hf2 => hgo σ2 (by omega) hx (hnx.snd hg v) h2 hs2 hf2 hp)⟩, fun z => absurd rfl z⟩
  exact key rl.1 0 (rl, 0, sc.1) _ (by omega) rfl hn (h.thr 0) (SK.wi _ _ _) (Fr.rf.ob _ _) hp
end SEND9
section CALLS
variable {σ : Hp} {a8 a9 : Nat} {K : Hp → Prop}
theorem call_send (h : TIE a8 a9 σ) (hK : ∀ σ', TIE a8 a9 σ' → K σ') {Q8 : Int32 → Hp → Prop} (hQ : ∀ r1 σ1, (gk σ1 a9 = some (9, 0) ∧ P_X9_send a9 σ1 (fun r2 σ2 => (r1 = r2 → K σ2) ∧ (¬ r1 = r2 → False))) → Q8 r1 σ1) : P_X8_send a8 σ Q8 := by
  obtain ⟨c, e, s, g, t, sh, rl, sc, rfl, hT8, hT9, hdis, hg, hsh, hrl⟩ := h
  have ho := sdo_ok (sh := sh) hg.wf rl.1 0 (rl, 0, sc.1) hrl
  exact bothG (P9 := fun σ1 post => P_X9_send a9 σ1 post) hT8 hT9 hdis hg hsh ho.1 (fun post hp => T8_send hT8 hg.wf hsh hrl (fun σ' h' hA => hp σ' c s rfl h' hA (fun i hi => Or.inl ⟨i, by rw [ho.2] at hi; exact hi, rfl⟩))) (fun σ1 post h9 hp => T9_send h9 hg.wf hsh hrl hp) hK hQ
end CALLS
