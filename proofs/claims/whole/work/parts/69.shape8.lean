/-! the class's shape -/
theorem prt_lv {t : G2} (hT : TOK t) {M D d : Nat} {x : PS} (hd : D + 1 + d = 7) (hx : TKW t x) (hn : 2 * nT x ≤ x.1) (hW : WP x d) (h : (prt t M (D + 1) d x).1 = true) : (prt t M (D + 1) d x).2.2.2.2 (nP x) = d := by
  unfold prt at h ⊢
  by_cases h1 : tab t x = -1 ∨ ¬ nP x < 20
  · rw [if_pos h1] at h; exact ft h
  rw [if_neg h1] at h ⊢
  obtain ⟨r1, r2, r3, r4, r5, r6, r7⟩ := pA_ok hT hx hn hW (fun z => h1 (Or.inl z)) (Classical.byContradiction fun z => h1 (Or.inr z))
  generalize pA t d x = y at r1 r2 r3 r4 r5 r6 r7 h ⊢
  by_cases h2 : sgn t y 123
  rotate_left
  · rw [if_pos h2]; exact r7
  rw [if_neg (fun z => z h2)] at h ⊢
  by_cases h3 : d < 6
  rotate_left
  · rw [if_pos h3] at h; exact ft h
  rw [if_neg (fun z => z h3)] at h ⊢
  have ha := adv_gt hT r1 (by rw [show byt t y.1 = 123 from h2]; decide)
  have hu := itms_ok hT (prt_ok hT M D) (p := nP x) (d := d + 1) (by omega) (by omega) M (adv t y) ha.1 (adv_nT (by omega)) (WS.adv r5) (adv_nP (by omega)) (adv_lv (by omega))
  generalize itms t (prt t M D) (nP x) (d + 1) M (adv t y) = r at hu ⊢
  have hlv : r.2.2.2.2 (nP x) = (adv t y).2.2.2 (nP x) := hu.2.1.2.2.2 (nP x) (adv_nP (by omega))
  rw [hlv]; exact r7
theorem txt_ok {t : G2} (hT : TOK t) {M D : Nat} (hD : D = 7) : (txt t M D).2.1 ≤ t.1 ∧ ((txt t M D).1 = true → SHok (txt t M D).2.2.2.1) := by
  have ha := adv_ok hT (x := ps0) (Nat.zero_le _)
  have hok := prt_ok hT M D 0 (adv t ps0) (by omega) ha.1 (Nat.zero_le _) (WP_0 t)
  have hlv : (prt t M D 0 (adv t ps0)).1 = true → (prt t M D 0 (adv t ps0)).2.2.2.2 0 = 0 := fun h => by
    subst hD
    exact prt_lv hT (x := adv t ps0) rfl ha.1 (Nat.zero_le _) (WP_0 t) h
  unfold txt
  generalize prt t M D 0 (adv t ps0) = r at hok hlv ⊢
  have hrl := hok.1.le hT
  have h200 : t.1 ≤ 200 := hT.1
  cases hb : r.1 with
  | false =>
    rw [if_pos rfl]
    exact ⟨hrl.2.2, fun z => ft z⟩
  | true =>
    rw [if_neg (fun z => ft z.symm)]
    obtain ⟨w1, w2⟩ := hok.2.2 hb
    by_cases hs : r.2.1 < t.1
    · rw [if_pos hs]; exact ⟨hrl.2.2, fun z => ft z⟩
    · rw [if_neg hs]
      exact ⟨hrl.2.2, fun _ => ⟨r.2.2.2.2, hlv hb, w2.1, by show nT r.2 ≤ 100; omega, w2.2.1, w2.2.2⟩⟩
/-- what shape() answers, the shape behind it, fault and status -/
def oShape (t : G2) (sh : SHT) (M D : Nat) : Int32 × SHT × Int32 × Int32 := if (txt t M D).1 = true then (nI (txt t M D).2.2.2.1.1, (txt t M D).2.2.2.1, -1, 0) else (-6, sh, nI (txt t M D).2.1, -6)
theorem oShape_ok {t : G2} {sh : SHT} (hT : TOK t) {M D : Nat} (hD : D = 7) (h : SHok sh) : SHok (oShape t sh M D).2.1 := by
  unfold oShape
  split
  · rename_i q
    exact (txt_ok hT hD).2 q
  · exact h
section SHAPE8
variable {σ σ' σ0 : Hp} {c : Nat → Nat} {s s2 q : Nat} {g : G1} {t : G2} {sh : SHT} {rl : RLT} {sc : SCT} {x : PS}
/-- only the spare shape changes, and a parser -/
theorem T8.spr (h : T8 σ c s g t sh rl sc) (hs2 : s2 = 22 - s) (hA : Ag (SQ c s2 q) (fun _ => False) σ σ') (hq : ∀ i, k8 rl.1 i ≠ none → c i ≠ q) (hq4 : gk σ q ≠ some (4, 0)) : T8 σ' c s g t sh rl sc := by
  obtain ⟨h1, h2, h3, h5, h6, h7, h8⟩ := h
  have hs8 : s = 8 ∨ s = 14 := h1.2.2.2.1.1
  have n : ∀ i, k8 rl.1 i ≠ none → (i < s2 ∨ s2 + 6 ≤ i) → ¬ SQ c s2 q (c i) := fun i hi hn z => by
    rcases z with z | ⟨k, hk, z⟩
    · exact hq i hi z
    · have := h1.2.1 _ _ hi (k8_n (show s2 + k < 26 by omega)) z
      omega
  have m : ∀ i, i < 26 → (i < s2 ∨ s2 + 6 ≤ i) → ¬ SQ c s2 q (c i) := fun i hi hn => n i (k8_n hi) hn
  have n4 : ∀ b, gk σ b = some (4, 0) → ¬ SQ c s2 q b := fun b hb z => by
    rcases z with z | ⟨k, hk, z⟩
    · rw [z] at hb; exact hq4 hb
    · exact h1.n4 (k8_n (show s2 + k < 26 by omega)) hb z
  exact ⟨h1.ag hA (fun i hi hT => hT.elim), h2.ag hA (m 1 (by decide) (by omega)) id id n4, h3.ag hA (m 3 (by decide) (by omega)) id id n4, h5.ag h1 hA (m 5 (by decide) (by omega)) (m 6 (by decide) (by omega)), h6.ag h1 hA (fun k hk => m (s + k) (by omega) (by omega)), h7.ag h1 hA (fun i hi26 hi => n i hi (by omega)), h8.ag h1 hA (m 0 (by decide) (by omega))⟩
theorem T8.flt (h : T8 σ c s g t sh rl sc) (v : Int32) : T8 (si σ (c 0) 7 v) c s g t sh rl (sc.1, v, sc.2.2) := by
  refine h.obj (Ag.rf.wi _ (Or.inl ⟨0, by decide, rfl⟩)) ?_
  obtain ⟨h1, h2, h3, h4⟩ := h.2.2.2.2.2.2
  exact ⟨by rw [gi_sk (by decide)]; exact h1, by rw [gi_sk (by decide)]; exact h2, gi_ss, by rw [gi_sk (by decide)]; exact h4⟩
/-- the tape emptied -/
theorem T8.cut0 (h : T8 σ c s g t sh rl sc) (hA0 : Ag (S8 c rl.1) (S8 c rl.1) σ0 σ) {post : Hp → Prop} (hp : ∀ σ', σ' = si σ (c 5) 1 0 → T8 σ' c s g (0, t.2) sh rl sc → Ag (S8 c rl.1) (S8 c rl.1) σ0 σ' → post σ') : P_X7_cutTo (c 5) (0 : Int32) σ post := by
  obtain ⟨t1, t2, t3⟩ := id h.2.2.2.1
  unfold P_X7_cutTo
  have e1 : (if (0 : Int32) < nI t.1 then (0 : Int32) else nI t.1) = 0 := by
    by_cases q : (0 : Int32) < nI t.1
    · rw [if_pos q]
    · rw [if_neg q]
      rw [ilt, nIi (by omega), show (0 : Int32).toInt = 0 by decide] at q
      rw [show t.1 = 0 by omega]; rfl
  rw [t1, e1, if_neg (by decide)]
  have n56 : c 6 ≠ c 5 := h.1.ne (by decide) (by decide) (by decide)
  exact ⟨h.1.k 5 (by decide) rfl, hp _ rfl (h.tape (Ag.rf.wi _ (Or.inl ⟨5, by decide, rfl⟩)) ⟨gi_ss, Nat.zero_le _, fun i hi => absurd hi (Nat.not_lt_zero _)⟩) (hA0.wi _ (Or.inl ⟨5, k8_n (by decide), rfl⟩))⟩
/-- the spare shape comes into use -/
theorem T8.swap (h : T8 σ c s g t sh rl sc) (hs2 : s2 = 22 - s) {sh' : SHT} (h2' : SH8 σ c s2 sh') : T8 (sr (sr σ (c 0) 4 (some (c s2))) (c 0) 9 (some (c s))) c s2 g t sh' rl sc := by
  obtain ⟨h1, h2, h3, h5, h6, h7, h8⟩ := h
  have hs8 : s = 8 ∨ s = 14 := h1.2.2.2.1.1
  have hA : Ag (fun _ => False) (fun b => b = c 0) σ (sr (sr σ (c 0) 4 (some (c s2))) (c 0) 9 (some (c s))) := Ag.wr (Ag.wr (Ag.rf (S := fun _ => False) (T := fun b => b = c 0)) _ (Or.inl (show c 0 = c 0 from rfl))) _ (Or.inl (show c 0 = c 0 from rfl))
  have n : ∀ i, k8 rl.1 i ≠ none → i ≠ 0 → ¬ c i = c 0 := fun i hi h0 z => h0 (h1.2.1 _ _ hi (k8_n (by decide)) z)
  have m : ∀ i, i < 26 → i ≠ 0 → ¬ c i = c 0 := fun i hi h0 => n i (k8_n hi) h0
  have g1 : ∀ i, k8 rl.1 i ≠ none → i ≠ 0 → ∀ k, gr (sr (sr σ (c 0) 4 (some (c s2))) (c 0) 9 (some (c s))) (c i) k = gr σ (c i) k := fun i hi h0 k => by rw [gr_sa (n i hi h0), gr_sa (n i hi h0)]
  have g0 : ∀ k, k ≠ 4 → k ≠ 9 → gr (sr (sr σ (c 0) 4 (some (c s2))) (c 0) 9 (some (c s))) (c 0) k = gr σ (c 0) k := fun k k4 k9 => by
    rw [gr_sr, if_neg (fun z => k9 z.2), gr_sr, if_neg (fun z => k4 z.2)]
  have ht : ∀ u ∈ r8, u.1 < 26 ∧ (u.1 = 0 → u.2.1 ≠ 4 ∧ u.2.1 ≠ 9) := by decide +kernel
  refine ⟨⟨h1.1, h1.2.1, fun u hu => ?_, ⟨by omega, ?_, ?_⟩, fun j hj => ?_, fun j hj hj10 => ?_, h1.2.2.2.2.2.2⟩, h2.ag hA id (m 1 (by decide) (by decide)) (m 2 (by decide) (by decide)) (fun _ _ => id), h3.ag hA id (m 3 (by decide) (by decide)) (m 4 (by decide) (by decide)) (fun _ _ => id), h5.ag h1 hA id id, h2', h7.ag h1 hA (fun _ _ _ => id), h8.ag h1 hA id⟩
  · obtain ⟨u1, u2⟩ := ht u hu
    by_cases h0 : u.1 = 0
    · have := h1.2.2.1 u hu
      rw [h0] at this ⊢
      rw [g0 _ (u2 h0).1 (u2 h0).2]; exact this
    · rw [g1 _ (k8_n u1) h0]; exact h1.2.2.1 u hu
  · rw [gr_sr, if_neg (fun z => absurd z.2 (by decide)), gr_sr, if_pos ⟨rfl, rfl⟩]
  · rw [gr_sr, if_pos ⟨rfl, rfl⟩, show 22 - s2 = s by omega]
  · have kj := k8_n2 hj
    rw [g1 7 (k8_n (by decide)) (by decide), g1 _ kj.1 (by omega), g1 _ kj.2.1 (by omega)]
    exact h1.2.2.2.2.1 j hj
  · rw [g1 7 (k8_n (by decide)) (by decide)]
    exact h1.2.2.2.2.2.1 j hj hj10
theorem T8_shape {M D : Nat} (hM : M = 100) (hD : D = 7) {post : Int32 → Hp → Prop} (h : T8 σ c s g t sh rl sc) (hp : ∀ σ' s', T8 σ' c s' g (0, t.2) (oShape t sh M D).2.1 rl (sc.1, (oShape t sh M D).2.2.1, (oShape t sh M D).2.2.2) → Ag (S8 c rl.1) (S8 c rl.1) σ σ' → post (oShape t sh M D).1 σ') : P_X8_shape (c 0) σ post := by
  have hL := h.1
  have hs8 : s = 8 ∨ s = 14 := hL.2.2.2.1.1
  have s0 : S8 c rl.1 (c 0) := ⟨0, k8_n (by decide), rfl⟩
  obtain ⟨s2, hs2⟩ : ∃ s2, s2 = 22 - s := ⟨_, rfl⟩
  have hL2 := hL.shp (s2 := s2) (by omega)
  have r9 : gr σ (c 0) 9 = some (c s2) := by rw [hs2]; exact hL.2.2.2.1.2.2
  have n02 : c 0 ≠ c s2 := hL.ne (by decide) (by omega) (by omega)
  have n52 : c 5 ≠ c s2 := hL.ne (by decide) (by omega) (by omega)
  unfold P_X8_shape
  refine ⟨hL.k 0 (by decide) rfl, c s2, r9, hL2.1, hL2.1, fun q f1 => ?_⟩
  have f0 : gk σ q = none := f1
  have hqi : ∀ i, k8 rl.1 i ≠ none → c i ≠ q := fun i hi z => hL.some hi (by rw [z]; exact f0)
  have q0 : c 0 ≠ q := hqi 0 (k8_n (by decide))
  have q5 : c 5 ≠ q := hqi 5 (k8_n (by decide))
  have qs : c s2 ≠ q := hqi s2 (k8_n (by omega))
  refine ⟨by rw [gk_nw, if_neg q0]; exact hL.k 0 (by decide) rfl, c s2, by rw [gr_nw, if_neg q0]; exact r9, c 5, by rw [gr_nw, if_neg q0]; exact hL.r 0 2 5 (by decide), gk_new, ?_⟩
  generalize hσ0 : sr (sr (si (si (nw (si (si σ (c s2) 5 (0 : Int32)) (c s2) 6 (0 : Int32)) q 2 0) q 2 (0 : Int32)) q 3 (0 : Int32)) q 0 (some (c 5))) q 1 (some (c s2)) = σ0
  have hA0 : Ag (SQ c s2 q) (fun _ => False) σ σ0 := by
    rw [← hσ0]
    have a1 : Ag (SQ c s2 q) (fun _ => False) σ (nw (si (si σ (c s2) 5 (0 : Int32)) (c s2) 6 (0 : Int32)) q 2 0) := ((Ag.rf.wi _ (Or.inl (Or.inr ⟨0, by decide, rfl⟩))).wi _ (Or.inl (Or.inr ⟨0, by decide, rfl⟩))).new f1
    exact (((a1.wi _ (Or.inr f0)).wi _ (Or.inr f0)).wr _ (Or.inr f0)).wr _ (Or.inr f0)
  have hT0 : T8 σ0 c s g t sh rl sc := h.spr hs2 hA0 hqi (by rw [f0]; exact fun z => by cases z)
  have kq : gk σ0 q = some (2, 0) := by rw [← hσ0]; exact gk_new
  have hC : C2 σ0 c s s2 q g t sh rl sc := ⟨hT0, kq, by rw [← hσ0, gr_sr, if_neg (fun z => absurd z.2 (by decide)), gr_sr, if_pos ⟨rfl, rfl⟩], by rw [← hσ0, gr_sr, if_pos ⟨rfl, rfl⟩], hs2⟩
  have i5 : gi σ0 (c s2) 5 = 0 := by rw [← hσ0, gi_sr, gi_sr, gi_sa qs, gi_sa qs, gi_nw, if_neg qs, gi_sk (by decide), gi_ss]
  have i6 : gi σ0 (c s2) 6 = 0 := by rw [← hσ0, gi_sr, gi_sr, gi_sa qs, gi_sa qs, gi_nw, if_neg qs, gi_ss]
  have hR : R2 σ0 c s2 q σ0 ps0 := ⟨Ag.rf, by rw [← hσ0, gi_sr, gi_sr, gi_sk (by decide), gi_ss]; rfl, by rw [← hσ0, gi_sr, gi_sr, gi_ss]; rfl, i5, i6, Nat.zero_le _, Nat.zero_le _, fun p hp => absurd hp (Nat.not_lt_zero _), fun i hi => absurd hi (Nat.not_lt_zero _)⟩
  have hTk := hC.tok
  have h200 : t.1 ≤ 200 := hTk.1
  clear hσ0
  refine ⟨kq, hC.text hM hD hR (fun σ7 h7 => ?_)⟩
  have htx := txt_ok (M := M) hTk hD
  unfold oShape at hp
  generalize txt t M D = r at hp h7 htx ⊢
  have hA7 : Ag (SQ c s2 q) (fun _ => False) σ σ7 := hA0.tr h7.1
  have hT7 : T8 σ7 c s g t sh rl sc := h.spr hs2 hA7 hqi (by rw [f0]; exact fun z => by cases z)
  have hA7' : Ag (S8 c rl.1) (S8 c rl.1) σ σ7 := fun b hb => by
    obtain ⟨w1, w2, w3⟩ := hA7 b hb
    refine ⟨w1, fun z => w2 (fun y => z ?_), fun _ => w3 id⟩
    rcases y with y | ⟨k, hk, y⟩
    · rw [y] at hb; exact absurd f0 hb
    · exact ⟨s2 + k, k8_n (by omega), y⟩
  have kq7 := (hC.qq h7).1
  have v1 : gi σ7 (c s2) 5 = nI r.2.2.2.1.1 := h7.2.2.2.1
  have e2 : gi σ7 q 2 = nI r.2.1 := h7.2.1
  cases hb : r.1 with
  | false =>
    rw [if_neg (by rw [hb]; exact fun z => ft z)] at hp
    refine ⟨fun _ => ⟨kq7, kq7, hT7.1.k 0 (by decide) rfl, c 5, hT7.1.r 0 2 5 (by decide), hT7.1.k 5 (by decide) rfl, ?_⟩, fun z => absurd rfl z⟩
    rw [e2]
    refine T8.cut0 (hT7.flt _) (hA7'.wi _ (Or.inl s0)) (fun σ8 _ h8 hA8 => ⟨fun z => absurd rfl z, fun _ => ⟨h8.1.k 0 (by decide) rfl, X8_refused h8.1 ?_⟩⟩)
    exact hp _ s (h8.stat _) (hA8.wi _ (Or.inl s0))
  | true =>
    rw [if_pos hb] at hp
    refine ⟨fun z => absurd z (by decide), fun _ => ⟨hT7.1.k 0 (by decide) rfl, c 5, hT7.1.r 0 2 5 (by decide), hT7.1.k 5 (by decide) rfl, ?_⟩⟩
    refine T8.cut0 (hT7.flt _) (hA7'.wi _ (Or.inl s0)) (fun σ8 e8 h8 hA8 => ⟨fun _ => ?_, fun z => absurd z (by decide)⟩)
    have r94 : gr σ8 (c 0) 9 = some (c s2) := by rw [hs2]; exact h8.1.2.2.2.1.2.2
    have r44 : gr σ8 (c 0) 4 = some (c s) := h8.1.2.2.2.1.2.1
    have hL8 := h8.1.shp (s2 := s2) (by omega)
    have hs28 : SH8 σ8 c s2 r.2.2.2.1 := by
      refine h7.2.2.2.co (fun k hk j => ?_)
      rw [e8, gi_sa (hL.ne (by omega) (by decide) (by omega)), gi_sa (hL.ne (by omega) (by decide) (by omega))]
    rw [r94, r44]
    refine ⟨h8.1.k 0 (by decide) rfl, c s2, rfl, hL8.1, hL8.1, ?_⟩
    have h9 := h8.swap hs2 hs28
    have hA9 : Ag (S8 c rl.1) (S8 c rl.1) σ (sr (sr σ8 (c 0) 4 (some (c s2))) (c 0) 9 (some (c s))) := (hA8.wr _ (Or.inl s0)).wr _ (Or.inl s0)
    have v9 : gi (sr (sr σ8 (c 0) 4 (some (c s2))) (c 0) 9 (some (c s))) (c s2) 5 = nI r.2.2.2.1.1 := hs28.1
    rw [v9]
    generalize sr (sr σ8 (c 0) 4 (some (c s2))) (c 0) 9 (some (c s)) = σ9 at h9 hA9 ⊢
    exact ⟨h9.1.k 0 (by decide) rfl, X8_answered h9.1 (hp _ s2 (h9.stat _) (hA9.wi _ (Or.inl s0)))⟩
end SHAPE8
