theorem adv_addI (t : G2) (x : PS) (it : Nat × Nat × Nat × Nat) : adv t (addI x it) = addI (adv t x) it := rfl
section ITEMS9
variable {σ σ' σ0 : Hp} {a : Nat} {e : Nat → Nat} {g : G1} {t : G2} {sh : SHT} {rl : RLT} {sc : SCT} {x : PS} {d : Nat} {op : Nat → Nat}
theorem R9x.opc {op' : Nat → Nat} (h : R9x σ0 a e t σ x d op') (ho : ∀ j, j < d → op' j = op j) : R9x σ0 a e t σ x d op := by
  obtain ⟨q1, ⟨s1, s2, s3, s4, s5, s6, s7, s8⟩, u⟩ := h
  exact ⟨q1, ⟨s1, s2, s3, s4, s5, s6, s7, fun j hj => by rw [← ho j hj]; exact s8 j hj⟩, u⟩
theorem C9.pop (hC : C9 σ0 a e g t sh rl sc) (h : R9x σ0 a e t σ x d op) (hd : 1 ≤ d) : R9x σ0 a e t (si σ a 31 (gi σ a 31 - (1 : Int32))) x (d - 1) op := by
  have hL := hC.L h.1
  obtain ⟨q1, ⟨s1, s2, s3, s4, s5, s6, s7, s8⟩, ⟨u1, u2, u3, u4⟩⟩ := h
  have e31 : gi σ a 31 - (1 : Int32) = nI (d - 1) := by
    rw [s5]
    obtain ⟨d', rfl⟩ : ∃ d', d = d' + 1 := ⟨d - 1, by omega⟩
    exact nI_pred d'
  rw [e31]
  have ga : ∀ k, k ≠ 31 → gi (si σ a 31 (nI (d - 1))) a k = gi σ a k := fun k hk => gi_sk hk
  have ge : ∀ j, 23 ≤ j → j ≤ 30 → ∀ z, gi (si σ a 31 (nI (d - 1))) (e j) z = gi σ (e j) z := fun j j1 j2 z => gi_sa (hL.na j (k9_n j j1 j2))
  refine ⟨q1.wa hC.1.1 _ (by decide), ⟨by rw [ga 39 (by decide)]; exact s1, by rw [ga 38 (by decide)]; exact s2, by rw [ga 21 (by decide)]; exact s3, by rw [ga 22 (by decide)]; exact s4, gi_ss, fun p hp => ?_, fun i hi => ?_, fun j hj => ?_⟩, ⟨by rw [ga 34 (by decide)]; exact u1, by rw [ga 35 (by decide)]; exact u2, by rw [ga 36 (by decide)]; exact u3, u4⟩⟩
  · rw [ge 23 (by decide) (by decide), ge 24 (by decide) (by decide), ge 25 (by decide) (by decide)]
    exact s6 p hp
  · rw [ge 26 (by decide) (by decide), ge 27 (by decide) (by decide), ge 28 (by decide) (by decide), ge 29 (by decide) (by decide)]
    exact s7 i hi
  · rw [ge 30 (by decide) (by decide)]; exact s8 j (by omega)
theorem C9.bad31 (hC : C9 σ0 a e g t sh rl sc) {s : Nat} (h : B9 σ0 a e σ s) (v : Int32) : B9 σ0 a e (si σ a 31 v) s := ⟨h.1.wa hC.1.1 _ (by decide), by rw [gi_sk (by decide)]; exact h.2.1, by rw [gi_sk (by decide)]; exact h.2.2⟩
/-- items read, in a loop I -/
def ITS (σ0 : Hp) (a : Nat) (e : Nat → Nat) (t : G2) (M : Nat) (I : Int32 → Hp → Prop) (D : Nat) : Prop := ∀ m d p x σ op, D + d = 7 → 1 ≤ d → d ≤ 6 → TKW t x → 2 * nT x + 2 ≤ x.1 → WS x → p < nP x → x.2.2.2 p + 1 = d → op (d - 1) = p → 100 ≤ nT x + m → R9x σ0 a e t σ x d op → ((itms t (prt t M D) p d m x).1 = true → ∀ σ', R9x σ0 a e t σ' (itms t (prt t M D) p d m x).2 (d - 1) op → I 0 σ') → ((itms t (prt t M D) p d m x).1 = false → ∀ r σ', B9 σ0 a e σ' (itms t (prt t M D) p d m x).2.1 → I r σ') → I 1 σ
theorem C9.prt1 (hC : C9 σ0 a e g t sh rl sc) {M D : Nat} (hM : M = 100) {I : Int32 → Hp → Prop} (hits : 0 < D → ITS σ0 a e t M I D) (hd : D + 1 + d = 7) (hx : TKW t x) (hn : 2 * nT x ≤ x.1) (hW : WP x d) (h : R9x σ0 a e t σ x d op) {Q : Int32 → Hp → Prop} (hQ : ∀ r σ, (r = 0 ∨ r = 1) → I r σ → Q r σ) (ok : (prt t M (D + 1) d x).1 = true → ∀ σ', R9x σ0 a e t σ' (prt t M (D + 1) d x).2 d op → I 0 σ') (bad : (prt t M (D + 1) d x).1 = false → ∀ r σ', B9 σ0 a e σ' (prt t M (D + 1) d x).2.1 → I r σ') : P_X9_readPart a σ Q := by
  have hT := hC.2
  have h200 : t.1 ≤ 200 := hT.1
  unfold prt at ok bad
  refine hC.part h hx hn hW (by omega) (fun hb σ' h' => ?_) (fun hb hs σ' h' => ?_) (fun hb hs h6 σ' h' => ?_) (fun hb hs h6 σ' h' => ?_)
  · rw [if_pos hb] at bad
    exact hQ 0 σ' (Or.inl rfl) (bad rfl 0 σ' h')
  · rw [if_neg hb, if_pos hs] at ok
    exact hQ 0 σ' (Or.inl rfl) (ok rfl σ' h')
  · rw [if_neg hb, if_neg (fun z => z hs), if_pos h6] at bad
    exact hQ 1 σ' (Or.inr rfl) (bad rfl 1 σ' h')
  · rw [if_neg hb, if_neg (fun z => z hs), if_neg (fun z => z h6)] at ok bad
    obtain ⟨r1, r2, r3, r4, r5, r6, r7⟩ := pA_ok hT hx hn hW (fun z => hb (Or.inl z)) (Classical.byContradiction fun z => hb (Or.inr z))
    generalize pA t d x = y at r1 r2 r3 r4 r5 r6 r7 hs h' ok bad
    have ha := adv_gt hT r1 (by rw [show byt t y.1 = 123 from hs]; decide)
    refine hQ 1 σ' (Or.inr rfl) (hits (by omega) M (d + 1) (nP x) (adv t y) σ' (opU op d (nP x)) (by omega) (by omega) (by omega) ha.1 (adv_nT (by omega)) (WS.adv r5) (adv_nP (by omega)) (adv_lv (by omega)) (if_pos rfl) (by omega) h' (fun hb' σ2 h2 => ?_) bad)
    have h2 : R9x σ0 a e t σ2 (itms t (prt t M D) (nP x) (d + 1) M (adv t y)).2 d (opU op d (nP x)) := h2
    exact ok hb' σ2 (h2.opc (fun j hj => if_neg (by omega)))
theorem C9.item (hC : C9 σ0 a e g t sh rl sc) {M D : Nat} (hM : M = 100) {I : Int32 → Hp → Prop} (hits : 0 < D → ITS σ0 a e t M I D) {p : Nat} (hd : D + 1 + d = 7) (hd1 : 1 ≤ d) (hd6 : d ≤ 6) (hx : TKW t x) (hn : 2 * nT x + 2 ≤ x.1) (hW : WS x) (hpp : p < nP x) (hl : x.2.2.2 p + 1 = d) (hop : op (d - 1) = p) (h : R9x σ0 a e t σ x d op)
    (ok : (itm t (prt t M (D + 1)) p d x).1 = true → ∀ σ', R9x σ0 a e t σ' (itm t (prt t M (D + 1)) p d x).2 d op → I 0 σ') (bad : (itm t (prt t M (D + 1)) p d x).1 = false → ∀ r σ', B9 σ0 a e σ' (itm t (prt t M (D + 1)) p d x).2.1 → I r σ') : P_X9_readItem a σ (fun r σ => I r σ) := by
  have hT := hC.2
  have h200 : t.1 ≤ 200 := hT.1
  have hxl := hx.le hT
  have h20 := hW.1
  unfold itm at ok bad
  -- an item up or down
  have ud : ∀ k : Nat, 1 ≤ k → k ≤ 2 → k = (if wrd t x wU then 1 else 2) → ¬ wrd t x wV → (wrd t x wU ∨ wrd t x wD) → J_X9_readItem_53 (fun r σ => I r σ) a (nI k) σ := fun k hk1 hk2 hke hv hud => by
    rw [if_neg hv, if_pos hud] at ok bad
    have hb : byt t x.1 ≠ -1 := by
      rcases hud with z | z
      · exact wrd_m1 z (by decide) (by decide)
      · exact wrd_m1 z (by decide) (by decide)
    have ha := adv_gt hT hx hb
    have hal := ha.1.le hT
    unfold J_X9_readItem_53
    refine ⟨fun z => absurd z (nI_pos (by omega)), fun _ => ?_⟩
    unfold J_X9_readItem_64
    refine ⟨(hC.L h.1).1, hC.must1 h (by omega) (by decide) (fun σ1 h1 => ⟨fun z => ?_, fun _ => ?_⟩)⟩
    · rw [show (0 : Int32) = nI 0 from rfl, nI_leI (by omega) (by decide)] at z; omega
    have h36 : gi σ1 a 36 = nI (srt t (adv t x).1) := h1.2.2.2.2.1
    have h37 : (gl σ1 a 37).toInt = wth t (adv t x) := h1.2.2.2.2.2
    have h3 := srt_le t (adv t x).1
    obtain ⟨rc, rv⟩ := rfh_c hT ha.1
    have hL1 := hC.L h1.1
    have j101 : rfh t (adv t x) = -1 → ∀ w, J_X9_readItem_101 (fun r σ => I r σ) a (nI k) w σ1 := fun hr w => by
      rw [if_pos hr] at bad
      unfold J_X9_readItem_101 J_X9_readItem_102
      refine ⟨hL1.1, hC.must0 h1 (fun σ2 h2 => ?_)⟩
      unfold J_X9_readItem_105
      refine ⟨(hC.L h2.1).1, fun z => ?_, fun _ => bad rfl 0 σ2 h2⟩
      rw [h2.2.1] at z; exact absurd z (by decide)
    rw [h36, show (2 : Int32) = nI 2 from rfl, nI_k (by omega) (by decide), lg_cmp_gt, i64lt, h37, show (1 : Int64).toInt = 1 by decide]
    refine ⟨hL1.1, fun z => j101 (Classical.byContradiction fun y => z (rc.mpr y).1) _, fun z => ⟨fun w => j101 (Classical.byContradiction fun y => by have := (rc.mpr y).2; omega) _, fun w => ?_⟩⟩
    have hr : rfh t (adv t x) ≠ -1 := rc.mp ⟨z, by omega⟩
    rw [if_neg hr] at ok bad
    have ha2 := adv_gt hT ha.1 (rfh_m1 hr)
    have hal2 := ha2.1.le hT
    have hw : Int64.toInt32 (gl σ1 a 37) = nI (rfh t (adv t x)).toNatClampNeg := by
      have hv0 := rv hr
      have hrr : rfh t (adv t x) = nI (rfh t (adv t x)).toNatClampNeg := by
        rcases (rfh_b hr).2.1 with y | y <;> rw [y] <;> rfl
      have hrb := irng (rfh t (adv t x))
      rw [← hrr, ieq, Int64.toInt_toInt32, h37, hv0]
      exact ibm hrb.1 hrb.2
    rw [hw]
    have hr1 : (rfh t (adv t x)).toNatClampNeg ≤ 1 := by
      rcases (rfh_b hr).2.1 with y | y <;> rw [y] <;> decide
    have hW5 : WS (adv t (adv t x)) := WS.adv (WS.adv hW)
    have e1 : nP (adv t (adv t x)) = nP x := rfl
    have e2 : nT (adv t (adv t x)) = nT x := rfl
    have e3 : (adv t (adv t x)).2.2.2 p = x.2.2.2 p := rfl
    have hit : itU t x p = (p, k, (rfh t (adv t x)).toNatClampNeg, nP x) := by rw [hke]
    rw [hit] at ok bad
    unfold J_X9_readItem_102
    refine ⟨hL1.1, hC.must1 h1 (by omega) (by decide) (fun σ2 h2 => ?_)⟩
    generalize (rfh t (adv t x)).toNatClampNeg = r at hr1 ok bad hit ⊢
    generalize adv t (adv t x) = y at ha2 hal2 hW5 e1 e2 e3 h2 ok bad
    have hW2 : WP (addI y (p, k, r, nP x)) d := by
      rw [← hl, ← e3, ← e1]
      exact WS.addU hW5 (by omega) (by omega) hk2 hr1
    refine hC.add h2 hd1 hd6 (it := (p, k, r, nP x)) hop (by show p < nP y; omega) (by omega) (by omega) hk2 (fun _ => ⟨rfl, e1.symm⟩) (fun z => absurd (show k = 0 from z) (by omega)) (fun _ σ3 h3' => ?_)
    have hx3 : TKW t (addI y (p, k, r, nP x)) := ha2.1
    have hn3 : 2 * nT (addI y (p, k, r, nP x)) ≤ (addI y (p, k, r, nP x)).1 := by show 2 * (nT y + 1) ≤ y.1; omega
    refine hC.prt1 hM hits hd hx3 hn3 hW2 h3' (fun r' σ4 hr' hI4 => ?_) ok bad
    rcases hr' with rfl | rfl
    · exact ⟨fun _ => hI4, fun z => absurd rfl z⟩
    · exact ⟨fun z => absurd z (by decide), fun _ => hI4⟩
  unfold P_X9_readItem
  refine ⟨(hC.L h.1).1, hC.wordV h hx (fun hv => ⟨fun z => absurd z (by decide), fun _ => ?_⟩) (fun hv => ⟨fun _ => ⟨(hC.L h.1).1, hC.wordU h hx (fun hu => ⟨fun z => absurd z (by decide), fun _ => ?_⟩) (fun hu => ⟨fun _ => ⟨(hC.L h.1).1, hC.wordD h hx (fun hw => ⟨fun z => absurd z (by decide), fun _ => ?_⟩) (fun hw => ⟨fun _ => ?_, fun z => absurd rfl z⟩)⟩, fun z => absurd rfl z⟩)⟩, fun z => absurd rfl z⟩)⟩
  · rw [if_pos hv] at ok
    have ha := adv_gt hT hx (wrd_m1 hv (by decide) (by decide))
    have hal := ha.1.le hT
    unfold J_X9_readItem_53
    refine ⟨fun z => absurd z (by decide), fun _ => ?_⟩
    unfold J_X9_readItem_64
    refine ⟨(hC.L h.1).1, hC.must1 h (by omega) (by decide) (fun σ1 h1 => ⟨fun _ => ?_, fun z => absurd (by decide) z⟩)⟩
    rw [adv_addI] at ok
    have e1 : nP (adv t x) = nP x := rfl
    have e2 : nT (adv t x) = nT x := rfl
    generalize adv t x = y at ha hal h1 e1 e2 ok
    exact hC.add h1 hd1 hd6 (it := (p, 0, 0, 0)) hop (by show p < nP y; omega) (by omega) (by omega) (Nat.zero_le 2) (fun z => absurd rfl z) (fun _ σ2 h2 => ok rfl σ2 h2) (fun z => absurd rfl z)
  · exact ud 1 (by decide) (by decide) (by rw [if_pos hu]) hv (Or.inl hu)
  · exact ud 2 (by decide) (by decide) (by rw [if_neg hu]) hv (Or.inr hw)
  · rw [if_neg hv, if_neg (fun z => z.elim hu hw)] at bad
    unfold J_X9_readItem_53
    refine ⟨fun _ => ?_, fun z => absurd (by decide) z⟩
    unfold J_X9_readItem_64
    refine ⟨(hC.L h.1).1, hC.must0 h (fun σ1 h1 => ⟨fun _ => ?_, fun z => absurd (by decide) z⟩)⟩
    unfold J_X9_readItem_105
    refine ⟨(hC.L h1.1).1, fun z => ?_, fun _ => bad rfl 0 σ1 h1⟩
    rw [h1.2.1] at z; exact absurd z (by decide)
theorem C9.items1 (hC : C9 σ0 a e g t sh rl sc) {M D : Nat} (hM : M = 100) {post : Int32 → Hp → Prop} {K I : Int32 → Hp → Prop} (hI : ∀ v τ, F_X9_shape_44 a post K I v τ → I v τ) (hits : 0 < D → ITS σ0 a e t M I D) : ITS σ0 a e t M I (D + 1) := by
  have hT := hC.2
  have h200 : t.1 ≤ 200 := hT.1
  intro m
  induction m with
  | zero =>
    intro d p x σ op hd hd1 hd6 hx hn hW hpp hl hop h100 h ok bad
    have hxl := hx.le hT
    omega
  | succ m ih =>
    intro d p x σ op hd hd1 hd6 hx hn hW hpp hl hop h100 h ok bad
    have hxl := hx.le hT
    have h31 : gi σ a 31 = nI d := h.2.1.2.2.2.2.1
    have hok := itm_ok hT (prt_ok hT M (D + 1)) hd hx hn hW hpp hl hd6
    have hgo := fun σ2 => ih d p (adv t (itm t (prt t M (D + 1)) p d x).2) σ2 op hd hd1 hd6
    unfold itms at ok bad
    refine hI 1 σ ⟨(hC.L h.1).1, fun z => absurd h.2.1.1 z, fun _ => ⟨fun z => ?_, fun _ => ⟨fun z => absurd z (by decide), fun _ => hC.item hM hits hd hd1 hd6 hx hn hW hpp hl hop h (fun hb σ1 h1 => ?_) (fun hb r σ1 h1 => ?_)⟩⟩⟩
    · rw [h31, show (0 : Int32) = nI 0 from rfl, nI_leI (by omega) (by decide)] at z; omega
    rotate_left
    · rw [if_pos hb] at bad
      exact bad rfl r σ1 h1
    have hnT : nT x + 1 ≤ nT (itm t (prt t M (D + 1)) p d x).2 := by
      unfold itm at hb ⊢
      by_cases hv : wrd t x wV
      · rw [if_pos hv]; exact Nat.le_refl _
      · rw [if_neg hv] at hb ⊢
        by_cases hu : wrd t x wU ∨ wrd t x wD
        · rw [if_pos hu] at hb ⊢
          by_cases hr : rfh t (adv t x) = -1
          · rw [if_pos hr] at hb; exact ft hb
          · rw [if_neg hr] at hb ⊢
            have hbm : byt t x.1 ≠ -1 := by
              rcases hu with z | z
              · exact wrd_m1 z (by decide) (by decide)
              · exact wrd_m1 z (by decide) (by decide)
            have ha := adv_gt hT hx hbm
            have ha2 := adv_gt hT ha.1 (rfh_m1 hr)
            have hr1 : (rfh t (adv t x)).toNatClampNeg ≤ 1 := by
              rcases (rfh_b hr).2.1 with y | y <;> rw [y] <;> decide
            have hW5 : WS (adv t (adv t x)) := WS.adv (WS.adv hW)
            have e1 : nP (adv t (adv t x)) = nP x := rfl
            have e2 : nT (adv t (adv t x)) = nT x := rfl
            have e3 : (adv t (adv t x)).2.2.2 p = x.2.2.2 p := rfl
            have hk2 : (if wrd t x wU then 1 else 2) ≤ 2 := by split <;> decide
            have hit : itU t x p = (p, (if wrd t x wU then 1 else 2), (rfh t (adv t x)).toNatClampNeg, nP (adv t (adv t x))) := rfl
            rw [hit]
            generalize (if wrd t x wU then 1 else 2) = k at hk2 ⊢
            generalize (rfh t (adv t x)).toNatClampNeg = r at hr1 ⊢
            generalize adv t (adv t x) = y at ha2 hW5 e1 e2 e3 ⊢
            have hW2 : WP (addI y (p, k, r, nP y)) d := by
              rw [← hl, ← e3]
              exact WS.addU hW5 (by omega) (by omega) hk2 hr1
            have hp := prt_ok hT M (D + 1) d (addI y (p, k, r, nP y)) hd ha2.1 (by show 2 * (nT y + 1) ≤ y.1; omega) hW2
            have hle : nT y + 1 ≤ nT (prt t M (D + 1) d (addI y (p, k, r, nP y))).2 := hp.2.1.2.1
            omega
        · rw [if_neg hu] at hb; exact ft hb
    generalize itm t (prt t M (D + 1)) p d x = r at hok hgo ok bad hb h1 hnT
    obtain ⟨w1, w2, w3⟩ := hok
    have hrl := w1.le hT
    obtain ⟨c1, c2⟩ := w3 hb
    rw [if_neg (by rw [hb]; exact fun z => ft z.symm)] at ok bad
    have m31 : gi σ1 a 31 = nI d := h1.2.1.2.2.2.2.1
    refine hI 0 σ1 ⟨(hC.L h1.1).1, fun z => absurd h1.2.1.1 z, fun _ => ⟨fun z => ?_, fun _ => ⟨fun _ => hC.sign h1 (v := 44) (by decide) (fun hs => ⟨fun z => absurd z (by decide), fun _ => ⟨(hC.L h1.1).1, hC.next h1 (by omega) (fun σ2 h2 => ?_)⟩⟩) (fun hs => ⟨fun _ => ⟨(hC.L h1.1).1, hC.sign h1 (v := 125) (by decide) (fun hs2 => ⟨(hC.L h1.1).1, hC.must1 h1 (by omega) (by decide) (fun σ2 h2 => ⟨(hC.L h2.1).1, ?_⟩)⟩) (fun hs2 => ⟨(hC.L h1.1).1, hC.must0 h1 (fun σ2 h2 => ⟨(hC.L h2.1).1, ?_⟩)⟩)⟩, fun z => absurd rfl z⟩), fun z => absurd rfl z⟩⟩⟩
    · rw [m31, show (0 : Int32) = nI 0 from rfl, nI_leI (by omega) (by decide)] at z; omega
    · have hs : byt t r.2.1 = 44 := hs
      have hn125 : ¬ sgn t r.2 125 := fun z => by
        have z : byt t r.2.1 = 125 := z
        rw [hs] at z; exact absurd z (by decide)
      rw [if_neg hn125, if_pos (show sgn t r.2 44 from hs)] at ok bad
      have ha := adv_gt hT w1 (by rw [hs]; decide)
      have hlv := w2.2.2.2 p hpp
      have hle := w2.1
      have enT : nT (adv t r.2) = nT r.2 := rfl
      exact hgo σ2 ha.1 (adv_nT (by omega)) (WS.adv c2) (adv_nP (by omega)) (adv_lv (by rw [hlv]; exact hl)) hop (by rw [enT]; omega) h2 ok bad
    · rw [if_pos hs2] at ok
      exact ok rfl _ (hC.pop h2 hd1)
    · rw [if_neg hs2, if_neg hs] at bad
      exact bad rfl 0 _ (hC.bad31 h2 _)
theorem C9.items (hC : C9 σ0 a e g t sh rl sc) {M : Nat} (hM : M = 100) {post : Int32 → Hp → Prop} {K I : Int32 → Hp → Prop} (hI : ∀ v τ, F_X9_shape_44 a post K I v τ → I v τ) (D : Nat) : 0 < D → ITS σ0 a e t M I D := by
  induction D with
  | zero => exact fun h => absurd h (Nat.lt_irrefl 0)
  | succ D ih => exact fun _ => hC.items1 hM hI ih
end ITEMS9
