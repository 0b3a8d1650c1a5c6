section SHAPE9
variable {σ σ' σ0 : Hp} {a : Nat} {e : Nat → Nat} {g : G1} {t : G2} {sh : SHT} {rl : RLT} {sc : SCT} {x : PS} {d : Nat} {op : Nat → Nat}
theorem X9_copy1 {post K : Int32 → Hp → Prop} {P : Nat} (hL : L9 σ a e) (h21 : gi σ a 21 = nI P) (hP : P ≤ 20) (hK : ∀ v σ', SK σ σ' → Fr (W9 a e) σ σ' → (∀ b z, b ≠ e 15 → b ≠ e 16 → gi σ' b z = gi σ b z) → (∀ p, p < P → gi σ' (e 15) p = gi σ (e 23) p ∧ gi σ' (e 16) p = gi σ (e 24) p) → K v σ') : lfp1 (F_X9_shape_159 a post K) (0 : Int32) σ := by
  intro I hI
  have n : ∀ i j, k9 i ≠ none → k9 j ≠ none → i ≠ j → e i ≠ e j := fun i j hi hj hij => hL.ne hi hj hij
  have na : ∀ j, k9 j ≠ none → a ≠ e j := fun j hj => Ne.symm (hL.na j hj)
  have key : ∀ m v σ', v + m = P → SK σ σ' → Fr (W9 a e) σ σ' → (∀ b z, b ≠ e 15 → b ≠ e 16 → gi σ' b z = gi σ b z) → (∀ p, p < v → gi σ' (e 15) p = gi σ (e 23) p ∧ gi σ' (e 16) p = gi σ (e 24) p) → I (nI v) σ' := by
    intro m
    induction m with
    | zero =>
      intro v σ' hv hs hf q1 q2
      obtain rfl : v = P := by omega
      refine hI _ _ ⟨(hL.sk hs).1, fun _ => hK _ _ hs hf q1 q2, fun z => ?_⟩
      rw [q1 a 21 (na 15 (by decide)) (na 16 (by decide)), h21] at z
      exact absurd (nI_le (Nat.le_refl _) (by omega)) z
    | succ m ih =>
      intro v σ' hv hs hf q1 q2
      have hL' := hL.sk hs
      have hvn : vp_in (nI v) 20 := vinN (by omega) (by decide)
      refine hI _ _ ⟨hL'.1, fun z => ?_, fun _ => ⟨e 23, hL'.r 23 rfl, 20, hL'.k 23 rfl, hvn, e 15, hL'.r 15 rfl, 20, hL'.k 15 rfl, hvn, e 24, hL'.r 24 rfl, 20, hL'.k 24 rfl, hvn, e 16, hL'.r 16 rfl, 20, hL'.k 16 rfl, hvn, ?_⟩⟩
      · rw [q1 a 21 (na 15 (by decide)) (na 16 (by decide)), h21] at z
        exact absurd z (nI_ge (by omega) (by omega))
      · rw [clN (by omega), nI_1, gi_sa (n 24 15 (by decide) (by decide) (by decide)), q1 (e 23) v (n _ _ (by decide) (by decide) (by decide)) (n _ _ (by decide) (by decide) (by decide)), q1 (e 24) v (n _ _ (by decide) (by decide) (by decide)) (n _ _ (by decide) (by decide) (by decide))]
        refine ih (v + 1) _ (by omega) (hs.tr ((SK.wi _ _ _).tr (SK.wi _ _ _))) ((hf.wi _ (Or.inr ⟨15, by decide, rfl⟩)).wi _ (Or.inr ⟨16, by decide, rfl⟩)) (fun b z b1 b2 => by rw [gi_sa b2, gi_sa b1]; exact q1 b z b1 b2) (fun p hp => ?_)
        rw [gi_sa (n 15 16 (by decide) (by decide) (by decide))]
        by_cases hpv : p = v
        · subst hpv
          rw [gi_ss, gi_ss]; exact ⟨rfl, rfl⟩
        · rw [gi_sk hpv, gi_sk hpv, gi_sa (n 16 15 (by decide) (by decide) (by decide))]; exact q2 p (by omega)
  exact key P 0 σ (by omega) SK.rf Fr.rf (fun _ _ _ _ => rfl) (fun p hp => absurd hp (Nat.not_lt_zero _))
theorem X9_copy2 {post K : Int32 → Hp → Prop} {P : Nat} (hL : L9 σ a e) (h22 : gi σ a 22 = nI P) (hP : P ≤ 100) (hK : ∀ v σ', SK σ σ' → Fr (W9 a e) σ σ' → (∀ b z, b ≠ e 17 → b ≠ e 18 → b ≠ e 19 → b ≠ e 20 → gi σ' b z = gi σ b z) → (∀ p, p < P → gi σ' (e 17) p = gi σ (e 26) p ∧ gi σ' (e 18) p = gi σ (e 27) p ∧ gi σ' (e 19) p = gi σ (e 28) p ∧ gi σ' (e 20) p = gi σ (e 29) p) → K v σ') : lfp1 (F_X9_shape_199 a post K) (0 : Int32) σ := by
  intro I hI
  have n : ∀ i j, k9 i ≠ none → k9 j ≠ none → i ≠ j → e i ≠ e j := fun i j hi hj hij => hL.ne hi hj hij
  have na : ∀ j, k9 j ≠ none → a ≠ e j := fun j hj => Ne.symm (hL.na j hj)
  have nn : ∀ i, 26 ≤ i → i ≤ 29 → e i ≠ e 17 ∧ e i ≠ e 18 ∧ e i ≠ e 19 ∧ e i ≠ e 20 := fun i h1 h2 => ⟨n _ _ (k9_n i (by omega) (by omega)) (by decide) (by omega), n _ _ (k9_n i (by omega) (by omega)) (by decide) (by omega), n _ _ (k9_n i (by omega) (by omega)) (by decide) (by omega), n _ _ (k9_n i (by omega) (by omega)) (by decide) (by omega)⟩
  have key : ∀ m v σ', v + m = P → SK σ σ' → Fr (W9 a e) σ σ' → (∀ b z, b ≠ e 17 → b ≠ e 18 → b ≠ e 19 → b ≠ e 20 → gi σ' b z = gi σ b z) → (∀ p, p < v → gi σ' (e 17) p = gi σ (e 26) p ∧ gi σ' (e 18) p = gi σ (e 27) p ∧ gi σ' (e 19) p = gi σ (e 28) p ∧ gi σ' (e 20) p = gi σ (e 29) p) → I (nI v) σ' := by
    intro m
    induction m with
    | zero =>
      intro v σ' hv hs hf q1 q2
      obtain rfl : v = P := by omega
      refine hI _ _ ⟨(hL.sk hs).1, fun _ => hK _ _ hs hf q1 q2, fun z => ?_⟩
      rw [q1 a 22 (na 17 (by decide)) (na 18 (by decide)) (na 19 (by decide)) (na 20 (by decide)), h22] at z
      exact absurd (nI_le (Nat.le_refl _) (by omega)) z
    | succ m ih =>
      intro v σ' hv hs hf q1 q2
      have hL' := hL.sk hs
      have hvn : vp_in (nI v) 200 := vinN (by omega) (by decide)
      refine hI _ _ ⟨hL'.1, fun z => ?_, fun _ => ⟨e 26, hL'.r 26 rfl, 200, hL'.k 26 rfl, hvn, e 17, hL'.r 17 rfl, 200, hL'.k 17 rfl, hvn, e 27, hL'.r 27 rfl, 200, hL'.k 27 rfl, hvn, e 18, hL'.r 18 rfl, 200, hL'.k 18 rfl, hvn, e 28, hL'.r 28 rfl, 200, hL'.k 28 rfl, hvn, e 19, hL'.r 19 rfl, 200, hL'.k 19 rfl, hvn, e 29, hL'.r 29 rfl, 200, hL'.k 29 rfl, hvn, e 20, hL'.r 20 rfl, 200, hL'.k 20 rfl, hvn, ?_⟩⟩
      · rw [q1 a 22 (na 17 (by decide)) (na 18 (by decide)) (na 19 (by decide)) (na 20 (by decide)), h22] at z
        exact absurd z (nI_ge (by omega) (by omega))
      · obtain ⟨a1, a2, a3, a4⟩ := nn 26 (by decide) (by decide)
        obtain ⟨b1, b2, b3, b4⟩ := nn 27 (by decide) (by decide)
        obtain ⟨c1, c2, c3, c4⟩ := nn 28 (by decide) (by decide)
        obtain ⟨d1, d2, d3, d4⟩ := nn 29 (by decide) (by decide)
        have n78 := n 17 18 (by decide) (by decide) (by decide)
        have n79 := n 17 19 (by decide) (by decide) (by decide)
        have n70 := n 17 20 (by decide) (by decide) (by decide)
        have n89 := n 18 19 (by decide) (by decide) (by decide)
        have n80 := n 18 20 (by decide) (by decide) (by decide)
        have n90 := n 19 20 (by decide) (by decide) (by decide)
        rw [clN (by omega), nI_1]
        simp only [gi_sa d1, gi_sa d2, gi_sa d3, gi_sa c1, gi_sa c2, gi_sa b1]
        rw [q1 (e 26) v a1 a2 a3 a4, q1 (e 27) v b1 b2 b3 b4, q1 (e 28) v c1 c2 c3 c4, q1 (e 29) v d1 d2 d3 d4]
        refine ih (v + 1) _ (by omega) (hs.tr ⟨fun _ => rfl, fun _ _ => rfl⟩) ((((hf.wi _ (Or.inr ⟨17, by decide, rfl⟩)).wi _ (Or.inr ⟨18, by decide, rfl⟩)).wi _ (Or.inr ⟨19, by decide, rfl⟩)).wi _ (Or.inr ⟨20, by decide, rfl⟩)) (fun b z y1 y2 y3 y4 => by rw [gi_sa y4, gi_sa y3, gi_sa y2, gi_sa y1]; exact q1 b z y1 y2 y3 y4) (fun p hp => ?_)
        rw [gi_sa n70, gi_sa n79, gi_sa n78, gi_sa n80, gi_sa n89, gi_sa n90]
        by_cases hpv : p = v
        · subst hpv
          rw [gi_ss, gi_ss, gi_ss, gi_ss]; exact ⟨rfl, rfl, rfl, rfl⟩
        · simp only [gi_sk hpv]; exact q2 p (by omega)
  exact key P 0 σ (by omega) SK.rf Fr.rf (fun _ _ _ _ _ _ => rfl) (fun p hp => absurd hp (Nat.not_lt_zero _))
theorem T9.newsh (h : T9 σ0 a e g t sh rl sc) (hs : SK σ0 σ) (hc : ∀ k ∈ [1, 2, 9, 48, 53], gi σ a k = gi σ0 a k) (ha : ∀ j ∈ [3, 4, 5, 6, 7, 8, 10, 11, 12, 13, 49, 50, 51, 52], ∀ k, gi σ (e j) k = gi σ0 (e j) k) (h33 : gi σ a 33 = 0) (h38 : gi σ a 38 = -1) {sh' : SHT} (hS : SH9 σ a e sh') : T9 σ a e g (0, t.2) sh' rl (sc.1, -1, sc.2.2) := by
  obtain ⟨h1, h2, h3, h4, h5, h6, h7⟩ := h
  refine ⟨h1.sk hs, ?_, ?_, ⟨h33, fun i hi => absurd hi (Nat.not_lt_zero _)⟩, hS, ?_, ?_⟩
  · unfold R9 at *
    rw [hc 9 (by decide)]
    simpa only [ha 10 (by decide), ha 11 (by decide), ha 12 (by decide), ha 13 (by decide)] using h2
  · unfold H9 at *
    rw [hc 2 (by decide)]
    simpa only [ha 3 (by decide), ha 4 (by decide), ha 5 (by decide), ha 6 (by decide), ha 7 (by decide), ha 8 (by decide)] using h3
  · unfold RD9 at *
    rw [hc 48 (by decide)]
    simpa only [ha 49 (by decide), ha 50 (by decide), ha 51 (by decide), ha 52 (by decide)] using h6
  · exact ⟨by rw [hc 53 (by decide)]; exact h7.1, h38, by rw [hc 1 (by decide)]; exact h7.2.2⟩
/-- a text that can't be: the end -/
theorem C9.endB (hC : C9 σ0 a e g t sh rl sc) {s : Nat} (h : B9 σ0 a e σ s) {post : Int32 → Hp → Prop} (hp : ∀ σ', T9 σ' a e g (0, t.2) sh rl (sc.1, nI s, -6) → SK σ0 σ' → Fr (W9 a e) σ0 σ' → post (-6) σ') : P_X9_told a (-6 : Int32) (si σ a 33 (0 : Int32)) (fun (r4 : Int32) (σ4 : Hp) => post r4 σ4) := by
  obtain ⟨⟨q1, q2, q3, q4⟩, q5, q6⟩ := h
  obtain ⟨s1, s2, s3⟩ := hC.1.2.2.2.2.2.2
  have hT : T9 σ a e g t sh rl (sc.1, nI s, sc.2.2) := hC.1.scr q1 (fun k hk => q3 k (by
    have : ∀ k ∈ [2, 9, 14, 33, 48], k ∈ [1, 2, 9, 14, 33, 48, 53] := by decide
    exact this k hk)) q4 ⟨by rw [q3 53 (by decide)]; exact s1, q6, by rw [q3 1 (by decide)]; exact s3⟩
  have hT2 : T9 (si σ a 33 (0 : Int32)) a e g (0, t.2) sh rl (sc.1, nI s, sc.2.2) := hT.tape (SK.wi _ _ _) (fun k hk => gi_sk hk) (fun j hj _ k => gi_sa (hT.1.na j hj)) ⟨gi_ss, fun i hi => absurd hi (Nat.not_lt_zero _)⟩
  exact T9_told hT2 (q1.tr (SK.wi _ _ _)) (q2.ob _ _) hp
/-- the shape read becomes the one in use: the end -/
theorem C9.endG (hC : C9 σ0 a e g t sh rl sc) (h : R9x σ0 a e t σ x d op) (h20 : nP x ≤ 20) (h100 : nT x ≤ 100) {post : Int32 → Hp → Prop} (hp : ∀ σ', T9 σ' a e g (0, t.2) x.2.2.1 rl (sc.1, -1, 0) → SK σ0 σ' → Fr (W9 a e) σ0 σ' → post (nI (nP x)) σ') : lfp1 (F_X9_shape_159 a post (fun (v2_197 : Int32) (σx197 : Hp) => lfp1 (F_X9_shape_199 a post (fun (v2_261 : Int32) (σx261 : Hp) => gk σx261 a = some (9, 0) ∧ P_X9_told a (gi σx261 a 14) σx261 (fun (r3 : Int32) (σ3 : Hp) => post r3 σ3))) (0 : Int32) σx197)) (0 : Int32) (si (si σ a 33 (0 : Int32)) a 14 (gi σ a 21)) := by
  have hL := hC.L h.1
  obtain ⟨⟨f1, f2, f3, f4⟩, ⟨s1, s2, s3, s4, s5, s6, s7, s8⟩, ⟨u1, u2, u3, u4⟩⟩ := h
  have s3 : gi σ a 21 = nI (nP x) := s3
  have s4 : gi σ a 22 = nI (nT x) := s4
  rw [s3]
  have na : ∀ j, k9 j ≠ none → e j ≠ a := fun j hj => hL.na j hj
  have n : ∀ i j, k9 i ≠ none → k9 j ≠ none → i ≠ j → e i ≠ e j := fun i j hi hj hij => hL.ne hi hj hij
  have hs1 : SK σ (si (si σ a 33 (0 : Int32)) a 14 (nI (nP x))) := ⟨fun _ => rfl, fun _ _ => rfl⟩
  have hf1 : Fr (W9 a e) σ0 (si (si σ a 33 (0 : Int32)) a 14 (nI (nP x))) := (f2.ob _ _).ob _ _
  have a1 : ∀ k, k ≠ 33 → k ≠ 14 → gi (si (si σ a 33 (0 : Int32)) a 14 (nI (nP x))) a k = gi σ a k := fun k k1 k2 => by rw [gi_sk k2, gi_sk k1]
  have a33 : gi (si (si σ a 33 (0 : Int32)) a 14 (nI (nP x))) a 33 = 0 := by rw [gi_sk (by decide), gi_ss]
  have a14 : gi (si (si σ a 33 (0 : Int32)) a 14 (nI (nP x))) a 14 = nI (nP x) := gi_ss
  have e1 : ∀ j, k9 j ≠ none → ∀ z, gi (si (si σ a 33 (0 : Int32)) a 14 (nI (nP x))) (e j) z = gi σ (e j) z := fun j hj z => by rw [gi_sa (na j hj), gi_sa (na j hj)]
  generalize si (si σ a 33 (0 : Int32)) a 14 (nI (nP x)) = σ1 at hs1 hf1 a1 a33 a14 e1 ⊢
  have hL1 := hL.sk hs1
  refine X9_copy1 hL1 (by rw [a1 21 (by decide) (by decide)]; exact s3) h20 (fun _ σ2 hs2 hf2 q1 q2 => ?_)
  have hL2 := hL1.sk hs2
  have na' : ∀ j, k9 j ≠ none → a ≠ e j := fun j hj => Ne.symm (na j hj)
  refine X9_copy2 hL2 (by rw [q1 a 22 (na' 15 (by decide)) (na' 16 (by decide)), a1 22 (by decide) (by decide)]; exact s4) h100 (fun _ σ3 hs3 hf3 q3 q4 => ?_)
  have hL3 := hL2.sk hs3
  have aa : ∀ k, gi σ3 a k = gi σ1 a k := fun k => by rw [q3 a k (na' 17 (by decide)) (na' 18 (by decide)) (na' 19 (by decide)) (na' 20 (by decide)), q1 a k (na' 15 (by decide)) (na' 16 (by decide))]
  have ee : ∀ j, k9 j ≠ none → ¬ (15 ≤ j ∧ j ≤ 20) → ∀ z, gi σ3 (e j) z = gi σ (e j) z := fun j hj hn z => by
    rw [q3 (e j) z (n _ _ hj (by decide) (by omega)) (n _ _ hj (by decide) (by omega)) (n _ _ hj (by decide) (by omega)) (n _ _ hj (by decide) (by omega)), q1 (e j) z (n _ _ hj (by decide) (by omega)) (n _ _ hj (by decide) (by omega)), e1 j hj]
  have hSK : SK σ0 σ3 := ((f1.tr hs1).tr hs2).tr hs3
  have hFR : Fr (W9 a e) σ0 σ3 := (hf1.tr hf2).tr hf3
  have hl1 : ∀ k ∈ [1, 2, 9, 48, 53], k ≠ 33 ∧ k ≠ 14 ∧ k ∈ [1, 2, 9, 14, 33, 48, 53] := by decide
  have hl2 : ∀ j ∈ [3, 4, 5, 6, 7, 8, 10, 11, 12, 13, 49, 50, 51, 52], k9 j ≠ none ∧ ¬ (15 ≤ j ∧ j ≤ 20) ∧ j ∈ [3, 4, 5, 6, 7, 8, 10, 11, 12, 13, 15, 16, 17, 18, 19, 20, 32, 49, 50, 51, 52] := by decide +kernel
  have hT3 : T9 σ3 a e g (0, t.2) x.2.2.1 rl (sc.1, -1, sc.2.2) := by
    refine hC.1.newsh hSK (fun k hk => ?_) (fun j hj k => ?_) (by rw [aa]; exact a33) (by rw [aa, a1 38 (by decide) (by decide)]; exact s2) ⟨by rw [aa]; exact a14, fun p hp => ?_, fun i hi => ?_⟩
    · obtain ⟨k1, k2, k3⟩ := hl1 k hk
      rw [aa, a1 k k1 k2]; exact f3 k k3
    · obtain ⟨k1, k2, k3⟩ := hl2 j hj
      rw [ee j k1 k2]; exact f4 j k3 k
    · obtain ⟨w1, w2, w3⟩ := s6 p hp
      rw [q3 (e 15) p (n _ _ (by decide) (by decide) (by decide)) (n _ _ (by decide) (by decide) (by decide)) (n _ _ (by decide) (by decide) (by decide)) (n _ _ (by decide) (by decide) (by decide)), q3 (e 16) p (n _ _ (by decide) (by decide) (by decide)) (n _ _ (by decide) (by decide) (by decide)) (n _ _ (by decide) (by decide) (by decide)) (n _ _ (by decide) (by decide) (by decide)), (q2 p hp).1, (q2 p hp).2, e1 23 (by decide), e1 24 (by decide)]
      exact ⟨w1, w2⟩
    · obtain ⟨w1, w2, w3⟩ := s7 i hi
      obtain ⟨v1, v2, v3, v4⟩ := q4 i hi
      have o : ∀ j, 26 ≤ j → j ≤ 29 → ∀ z, gi σ2 (e j) z = gi σ (e j) z := fun j j1 j2 z => by
        rw [q1 (e j) z (n _ _ (k9_n j (by omega) (by omega)) (by decide) (by omega)) (n _ _ (k9_n j (by omega) (by omega)) (by decide) (by omega)), e1 j (k9_n j (by omega) (by omega))]
      rw [v1, v2, v3, v4, o 26 (by decide) (by decide), o 27 (by decide) (by decide), o 28 (by decide) (by decide), o 29 (by decide) (by decide)]
      exact ⟨w1, w2, w3⟩
  refine ⟨hL3.1, ?_⟩
  rw [aa, a14]
  refine T9_told hT3 hSK hFR (fun σ' h' hs' hf' => hp σ' ?_ hs' hf')
  rw [if_pos (by rw [nIi (by omega)]; omega)] at h'
  exact h'
theorem txt_f0 {t : G2} {M D : Nat} {r : RES} (hr : prt t M D 0 (adv t ps0) = r) (h : r.1 = false) : txt t M D = (false, r.2) := by
  unfold txt; rw [hr, if_pos h]
theorem txt_f1 {t : G2} {M D : Nat} {r : RES} (hr : prt t M D 0 (adv t ps0) = r) (h : r.1 = true) (hl : r.2.1 < t.1) : txt t M D = (false, r.2) := by
  unfold txt; rw [hr, if_neg (fun z => ft (z.symm.trans h)), if_pos hl]
theorem txt_t {t : G2} {M D : Nat} {r : RES} (hr : prt t M D 0 (adv t ps0) = r) (h : r.1 = true) (hl : ¬ r.2.1 < t.1) : txt t M D = (true, r.2) := by
  unfold txt; rw [hr, if_neg (fun z => ft (z.symm.trans h)), if_neg hl]
theorem oShape_f {t : G2} {sh : SHT} {M D : Nat} {y : PS} (h : txt t M D = (false, y)) : oShape t sh M D = (-6, sh, nI y.1, -6) := by
  unfold oShape; rw [h]; exact if_neg (fun z => ft z)
theorem oShape_t {t : G2} {sh : SHT} {M D : Nat} {y : PS} (h : txt t M D = (true, y)) : oShape t sh M D = (nI y.2.2.1.1, y.2.2.1, -1, 0) := by
  unfold oShape; rw [h]; exact if_pos rfl
/-- a part read, and the loop behind it -/
theorem C9.prtL (hC : C9 σ0 a e g t sh rl sc) {M D : Nat} (hM : M = 100) {post : Int32 → Hp → Prop} {K : Int32 → Hp → Prop} (hd : D + 1 = 7) (hx : TKW t x) (hn : 2 * nT x ≤ x.1) (hW : WP x 0) (h : R9x σ0 a e t σ x 0 op) (ok : (prt t M (D + 1) 0 x).1 = true → ∀ σ', R9x σ0 a e t σ' (prt t M (D + 1) 0 x).2 0 op → K 0 σ') (bad : (prt t M (D + 1) 0 x).1 = false → ∀ r σ', B9 σ0 a e σ' (prt t M (D + 1) 0 x).2.1 → K r σ') : P_X9_readPart a σ (fun r σ => lfp1 (F_X9_shape_44 a post K) r σ) := by
  have hT := hC.2
  have h200 : t.1 ≤ 200 := hT.1
  have hok : ∀ {I : Int32 → Hp → Prop}, (∀ v τ, F_X9_shape_44 a post K I v τ → I v τ) → (prt t M (D + 1) 0 x).1 = true → ∀ σ', R9x σ0 a e t σ' (prt t M (D + 1) 0 x).2 0 op → I 0 σ' := fun hI hb σ' h' => by
    have h31 : gi σ' a 31 = nI 0 := h'.2.1.2.2.2.2.1
    exact hI 0 σ' ⟨(hC.L h'.1).1, fun z => absurd h'.2.1.1 z, fun _ => ⟨fun _ => ok hb σ' h', fun z => by rw [h31] at z; exact absurd (by decide) z⟩⟩
  have hbad : ∀ {I : Int32 → Hp → Prop}, (∀ v τ, F_X9_shape_44 a post K I v τ → I v τ) → (prt t M (D + 1) 0 x).1 = false → ∀ r σ', B9 σ0 a e σ' (prt t M (D + 1) 0 x).2.1 → I r σ' := fun hI hb r σ' h' => hI r σ' ⟨(hC.L h'.1).1, fun _ => bad hb r σ' h', fun z => by rw [h'.2.1] at z; exact absurd z (by decide)⟩
  clear ok bad
  unfold prt at hok hbad
  refine hC.part h hx hn hW (by omega) (fun hb σ' h' => ?_) (fun hb hs σ' h' => ?_) (fun hb hs h6 σ' h' => ?_) (fun hb hs h6 σ' h' => ?_)
  · intro I hI
    have hbad := hbad hI
    rw [if_pos hb] at hbad
    exact hbad rfl 0 σ' h'
  · intro I hI
    have hok := hok hI
    rw [if_neg hb, if_pos hs] at hok
    exact hok rfl σ' h'
  · intro I hI
    have hbad := hbad hI
    rw [if_neg hb, if_neg (fun z => z hs), if_pos h6] at hbad
    exact hbad rfl 1 σ' h'
  · intro I hI
    have hok := hok hI
    have hbad := hbad hI
    rw [if_neg hb, if_neg (fun z => z hs), if_neg (fun z => z h6)] at hok hbad
    obtain ⟨r1, r2, r3, r4, r5, r6, r7⟩ := pA_ok hT hx hn hW (fun z => hb (Or.inl z)) (Classical.byContradiction fun z => hb (Or.inr z))
    generalize pA t 0 x = y at r1 r2 r3 r4 r5 r6 r7 hs h' hok hbad
    have ha := adv_gt hT r1 (by rw [show byt t y.1 = 123 from hs]; decide)
    refine hC.items hM hI D (by omega) M (0 + 1) (nP x) (adv t y) σ' (opU op 0 (nP x)) (by omega) (by omega) (by omega) ha.1 (adv_nT (by omega)) (WS.adv r5) (adv_nP (by omega)) (adv_lv (by omega)) (if_pos rfl) (by omega) h' (fun hb' σ2 h2 => ?_) hbad
    have h2 : R9x σ0 a e t σ2 (itms t (prt t M D) (nP x) (0 + 1) M (adv t y)).2 0 (opU op 0 (nP x)) := h2
    exact hok hb' σ2 (h2.opc (fun j hj => absurd hj (Nat.not_lt_zero _)))
theorem T9_shape {M D : Nat} (hM : M = 100) (hD : D = 7) {post : Int32 → Hp → Prop} (h : T9 σ a e g t sh rl sc) (hT : TOK t) (hp : ∀ σ', T9 σ' a e g (0, t.2) (oShape t sh M D).2.1 rl (sc.1, (oShape t sh M D).2.2.1, (oShape t sh M D).2.2.2) → SK σ σ' → Fr (W9 a e) σ σ' → post (oShape t sh M D).1 σ') : P_X9_shape a σ post := by
  have h200 : t.1 ≤ 200 := hT.1
  have hC0 : C9 σ a e g t sh rl sc := ⟨h, hT⟩
  unfold P_X9_shape
  refine ⟨h.1.1, ?_⟩
  have hF0 : F9 σ a e σ := ⟨SK.rf, Fr.rf, fun _ _ => rfl, fun _ _ _ => rfl⟩
  have hF : F9 σ a e (si (si (si (si (si (si (si σ a 0 (0 : Int32)) a 35 (0 : Int32)) a 39 (0 : Int32)) a 38 (-1 : Int32)) a 21 (0 : Int32)) a 22 (0 : Int32)) a 31 (0 : Int32)) := ((((((hF0.wa h.1 _ (by decide)).wa h.1 _ (by decide)).wa h.1 _ (by decide)).wa h.1 _ (by decide)).wa h.1 _ (by decide)).wa h.1 _ (by decide)).wa h.1 _ (by decide)
  have hS : SHN (si (si (si (si (si (si (si σ a 0 (0 : Int32)) a 35 (0 : Int32)) a 39 (0 : Int32)) a 38 (-1 : Int32)) a 21 (0 : Int32)) a 22 (0 : Int32)) a 31 (0 : Int32)) a e ps0.2.2.1 0 (fun _ => 0) := by
    refine ⟨?_, ?_, ?_, ?_, gi_ss, fun p hp => absurd hp (Nat.not_lt_zero _), fun i hi => absurd hi (Nat.not_lt_zero _), fun j hj => absurd hj (Nat.not_lt_zero _)⟩
    · rw [gi_sk (by decide), gi_sk (by decide), gi_sk (by decide), gi_sk (by decide), gi_ss]
    · rw [gi_sk (by decide), gi_sk (by decide), gi_sk (by decide), gi_ss]
    · rw [gi_sk (by decide), gi_sk (by decide), gi_ss]; rfl
    · rw [gi_sk (by decide), gi_ss]; rfl
  have h35 : gi (si (si (si (si (si (si (si σ a 0 (0 : Int32)) a 35 (0 : Int32)) a 39 (0 : Int32)) a 38 (-1 : Int32)) a 21 (0 : Int32)) a 22 (0 : Int32)) a 31 (0 : Int32)) a 35 = nI 0 := by
    rw [gi_sk (by decide), gi_sk (by decide), gi_sk (by decide), gi_sk (by decide), gi_sk (by decide), gi_ss]; rfl
  generalize si (si (si (si (si (si (si σ a 0 (0 : Int32)) a 35 (0 : Int32)) a 39 (0 : Int32)) a 38 (-1 : Int32)) a 21 (0 : Int32)) a 22 (0 : Int32)) a 31 (0 : Int32) = σ0 at hF hS h35 ⊢
  have hC : C9 σ a e g t sh rl sc := hC0
  refine hC.nextp (lv := ps0.2.2.2) hF hS h35 (Nat.zero_le _) (fun σ1 g1 g2 g3 => ⟨(hC.L g1).1, ?_⟩)
  have h1 : R9x σ a e t σ1 (adv t ps0) 0 (fun _ => 0) := ⟨g1, g2, g3⟩
  have ha := adv_ok hT (x := ps0) (Nat.zero_le _)
  have hok := prt_ok hT M D 0 (adv t ps0) (by omega) ha.1 (Nat.zero_le _) (WP_0 t)
  obtain ⟨D', hD'⟩ : ∃ D', D = D' + 1 := ⟨6, by omega⟩
  subst hD'
  refine hC.prtL hM (by omega) ha.1 (Nat.zero_le _) (WP_0 t) h1 (fun hb σ2 h2 => ?_) (fun hb v σ2 h2 => ?_)
  · generalize hr : prt t M (D' + 1) 0 (adv t ps0) = r at hok hb h2
    have hrl := hok.1.le hT
    obtain ⟨w1, w2⟩ := hok.2.2 hb
    have h36 : gi σ2 a 36 = nI (srt t r.2.1) := h2.2.2.2.2.1
    have h39 : gi σ2 a 39 = 0 := h2.2.1.1
    have h3 := srt_le t r.2.1
    refine ⟨(hC.L h2.1).1, fun z => absurd h39 z, fun _ => ⟨fun z => ⟨fun _ => ?_, fun y => absurd h39 y⟩, fun z => hC.must0 h2 (fun σ3 h3' => ⟨(hC.L h3'.1).1, fun y => ?_, fun _ => ?_⟩)⟩⟩
    · have hlt : ¬ r.2.1 < t.1 := fun y => by
        rw [h36, show (0 : Int32) = nI 0 from rfl, nI_k (by omega) (by decide)] at z
        unfold srt at z
        rw [if_neg (by omega)] at z
        split at z
        · omega
        · split at z <;> omega
      rw [oShape_t (txt_t hr hb hlt)] at hp
      exact hC.endG h2 w2.1 (by omega) hp
    · rw [h3'.2.1] at y; exact absurd y (by decide)
    · have hlt : r.2.1 < t.1 := Classical.byContradiction fun y => z (by
        rw [h36]
        unfold srt
        rw [if_pos (by omega)]; rfl)
      rw [oShape_f (txt_f1 hr hb hlt)] at hp
      exact hC.endB h3' hp
  · generalize hr : prt t M (D' + 1) 0 (adv t ps0) = r at hok hb h2
    refine ⟨(hC.L h2.1).1, fun _ => ⟨fun y => ?_, fun _ => ?_⟩, fun y => ?_⟩
    · rw [h2.2.1] at y; exact absurd y (by decide)
    · rw [oShape_f (txt_f0 hr hb)] at hp
      exact hC.endB h2 hp
    · rw [h2.2.1] at y; exact absurd y (by decide)
end SHAPE9
section CALLS
variable {σ : Hp} {a8 a9 : Nat} {K : Hp → Prop}
theorem call_shape (h : TIE a8 a9 σ) (hK : ∀ σ', TIE a8 a9 σ' → K σ') {Q8 : Int32 → Hp → Prop} (hQ : ∀ r1 σ1, (gk σ1 a9 = some (9, 0) ∧ P_X9_shape a9 σ1 (fun r2 σ2 => (r1 = r2 → K σ2) ∧ (¬ r1 = r2 → False))) → Q8 r1 σ1) : P_X8_shape a8 σ Q8 := by
  obtain ⟨c, e, s, g, t, sh, rl, sc, rfl, hT8, hT9, hdis, hg, hsh, hrl⟩ := h
  obtain ⟨M, hM⟩ : ∃ M, M = 100 := ⟨_, rfl⟩
  obtain ⟨D, hD⟩ : ∃ D, D = 7 := ⟨_, rfl⟩
  have hT : TOK t := ⟨hT8.2.2.2.1.2.1, fun i hi => (hT8.2.2.2.1.2.2 i hi).2⟩
  exact bothG (P9 := fun σ1 post => P_X9_shape a9 σ1 post) hT8 hT9 hdis hg (oShape_ok (M := M) hT hD hsh) hrl (fun post hp => T8_shape hM hD hT8 (fun σ' s' h' hA => hp σ' c s' rfl h' hA (fun i hi => Or.inl ⟨i, hi, rfl⟩))) (fun σ1 post h9 hp => T9_shape hM hD h9 hT hp) hK hQ
end CALLS
