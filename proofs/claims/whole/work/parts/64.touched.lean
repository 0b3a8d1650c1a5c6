/-! touched -/
/-- rows with row i's value v -/
def rhV (ρ : RM) (i : Nat) (v : Int32) : RM := setR ρ i ((ρ.2 i).1, v, (ρ.2 i).2.2)
def tc1 (ρ ρ2 : RM) (sh : SHT) (rl : RLT) (j : Nat) (b : Int32) : Int32 := if eqp (cut (gM ρ sh (nI (rl.2 j).1)).1) (cut (gM ρ2 sh (nI (rl.2 j).1)).1) (mk1 (gM ρ sh (nI (rl.2 j).1)).1) (mk1 (gM ρ2 sh (nI (rl.2 j).1)).1) then b else b ||| ((1 : Int32) <<< (nI j &&& 31))
def tco (ρ ρ2 : RM) (sh : SHT) (rl : RLT) : Nat → Nat → Int32 → Int32
  | 0, _, b => b
  | m + 1, j, b => tco ρ ρ2 sh rl m (j + 1) (tc1 ρ ρ2 sh rl j b)
def oTouch (ρ : RM) (sh : SHT) (rl : RLT) (x v : Int32) : Int32 := if stn ρ x ∧ isV v then tco ρ (rhV ρ x.toNatClampNeg v) sh rl rl.1 0 0 else 0
theorem rhV_ok {ρ : RM} {i : Nat} {v : Int32} (h : WFR ρ) (hi : i < ρ.1) (hv : isV v) : WFR (rhV ρ i v) := by
  have h60 := h.1
  obtain ⟨w1, w2, w3, w4, w5⟩ := h.2 i hi
  exact h.set (by omega) (by omega) ⟨w1, w2, w3, w4, hv⟩
theorem rhV_1 {ρ : RM} {i : Nat} {v : Int32} (hi : i < ρ.1) : (rhV ρ i v).1 = ρ.1 := by
  unfold rhV; rw [setR_1, if_pos hi]
theorem PP.ag {S T : Nat → Prop} {σ σ' : Hp} {b m len : Nat} {mk : Nat → Int32} (h : PP σ b m len mk) (hA : Ag S T σ σ') (hb : ¬ S b) (hbt : ¬ T b) (hm : ¬ S m) : PP σ' b m len mk := by
  obtain ⟨h1, h2, h3, h4, h5, h6⟩ := h
  have a1 := hA b (by rw [h1]; exact fun z => by cases z)
  have a2 := hA m (by rw [h3]; exact fun z => by cases z)
  exact ⟨by rw [a1.1]; exact h1, by rw [a1.2.2 hbt]; exact h2, by rw [a2.1]; exact h3, by rw [(a1.2.1 hb 1).1]; exact h4, h5, fun k hk => by rw [(a2.2.1 hm k).1]; exact h6 k hk⟩
/-- all rows of another taken -/
theorem X5_takeFrom {σ : Hp} {a ra a' ra' : Nat} {ρ : RM} {post : Hp → Prop} (h1 : gk σ a = some (5, 0)) (h2 : gr σ a 0 = some ra) (h3 : gk σ ra = some (13, 60)) (h : RS σ a' ra' ρ) (hd : a' ≠ a ∧ ra' ≠ ra) (hp : ∀ σ', Ag (fun b => b = a) (fun b => b = ra) σ σ' → RS σ' a ra ρ → post σ') : P_X5_takeFrom a a' σ post := by
  have hne : a ≠ ra := ne_kd h1 h3 (by decide)
  have n1 : a' ≠ ra := ne_kd h.1 h3 (by decide)
  have n4 : ∀ q, gk σ q = some (4, 0) → ¬ q = a := fun q hq => ne_kd hq h1 (by decide)
  have h60 := h.2.2.2.2.1
  unfold P_X5_takeFrom
  intro I hI
  have key : ∀ m v σ', v + m = 60 → Ag (fun b => b = a) (fun b => b = ra) σ σ' → gk σ' a = some (5, 0) → gr σ' a 0 = some ra → gk σ' ra = some (13, 60) → (∀ i, i < v → gr σ' ra i = if i < ρ.1 then gr σ ra' i else none) → I (nI v) σ' := by
    intro m
    induction m with
    | zero =>
      intro v σ' hv hA k1 k2 k3 k4
      obtain rfl : v = 60 := by omega
      have h' : RS σ' a' ra' ρ := h.ag hA hd.1 n1 hd.2 n4
      refine hI _ _ ⟨k1, ra, k2, 60, k3, fun _ => ⟨h'.1, hp _ (hA.wi _ (Or.inl rfl)) ⟨k1, k2, k3, ?_, h60, fun i hi => ?_, fun i hi hi60 => ?_⟩⟩, fun z => absurd (by decide) z⟩
      · rw [gi_ss]; exact h'.2.2.2.1
      · obtain ⟨q, e1, e2⟩ := h'.2.2.2.2.2.1 i hi
        refine ⟨q, ?_, e2.to rfl (fun k => gi_sa (ne_kd e2.1 k1 (by decide)))⟩
        rw [gr_si, k4 i (by omega), if_pos hi, ← e1]
        exact ((hA ra' (by rw [h.2.2.1]; exact fun z => by cases z)).2.2 hd.2 i).symm
      · rw [gr_si, k4 i hi60, if_neg (by omega)]
    | succ m ih =>
      intro v σ' hv hA k1 k2 k3 k4
      have h' : RS σ' a' ra' ρ := h.ag hA hd.1 n1 hd.2 n4
      have hvt : (nI v).toInt = (v : Int) := nIi (by omega)
      have hra : gr σ' ra' v = gr σ ra' v := (hA ra' (by rw [h.2.2.1]; exact fun z => by cases z)).2.2 hd.2 v
      refine hI _ _ ⟨k1, ra, k2, 60, k3, fun z => ?_, fun _ => ⟨h'.1, X5_at h' ⟨60, k3, vinN (by omega) (by decide), fun w hw => ?_, ?_⟩⟩⟩
      · rw [ile, ofn, hvt, nIi (by omega)] at z; omega
      · by_cases hvr : v < ρ.1
        · rw [if_pos ⟨by omega, by omega⟩, clN (by omega)] at hw
          obtain ⟨q, e1, e2⟩ := h'.2.2.2.2.2.1 v hvr
          rw [e1] at hw; cases hw; exact e2.1
        · rw [if_neg (by omega)] at hw; cases hw
      · rw [clN (by omega), nI_1]
        refine ih (v + 1) _ (by omega) (hA.wr _ (Or.inl rfl)) k1 (by rw [gr_sa hne]; exact k2) k3 (fun i hi => ?_)
        rw [gr_sr]
        by_cases hiv : i = v
        · rw [if_pos ⟨rfl, hiv⟩, hiv]
          by_cases hvr : v < ρ.1
          · rw [if_pos ⟨by omega, by omega⟩, if_pos hvr, hra]
          · rw [if_neg (by omega), if_neg hvr]
        · rw [if_neg (fun z => hiv z.2)]; exact k4 i (by omega)
  exact key 60 0 σ rfl Ag.rf h1 h2 h3 (fun i hi => absurd hi (Nat.not_lt_zero _))
section TOUCH8
variable {σ σ' σ0 : Hp} {c : Nat → Nat} {s : Nat} {g : G1} {t : G2} {sh : SHT} {rl : RLT} {sc : SCT} {ρ : RM}
theorem RS.gat (hL : L8 σ c rl.1 s) (hR : RS σ (c 20) (c 21) ρ) {ib : Nat} (hb : ib = 22 ∨ ib = 24) (hA : Ag (IL c [ib, ib + 1]) (fun _ => False) σ σ') : RS σ' (c 20) (c 21) ρ := by
  have hl : ∀ i ∈ [ib, ib + 1], i < 26 := by
    intro i hi
    simp at hi; omega
  exact hR.ag hA (IL.not hL hl (k8_n (by decide)) (by simp; omega)) id id (fun q hq => IL.n4 hL hl hq)
theorem T8.otherwise {x : Int32} {post : Int32 → Hp → Prop} (h : T8 σ c s g t sh rl sc) (hA0 : Ag (S8 c rl.1) (S8 c rl.1) σ0 σ) (hg : WFR g.1) (hsh : SHok sh) (hR : RS σ (c 20) (c 21) ρ) (hW : WFR ρ) (hp : ∀ r σ', T8 σ' c s g t sh rl sc → Ag (S8 c rl.1) (S8 c rl.1) σ0 σ' → RS σ' (c 20) (c 21) ρ → r = (if eqp (cut (gM g.1 sh x).1) (cut (gM ρ sh x).1) (mk1 (gM g.1 sh x).1) (mk1 (gM ρ sh x).1) then 0 else 1) → post r σ') : P_X8_isOtherwiseThen (c 0) x σ post := by
  unfold P_X8_isOtherwiseThen
  refine ⟨h.1.k 0 (by decide) rfl, c 1, h.1.r 0 0 1 (by decide), c s, h.1.2.2.2.1.2.1, c 22, h.1.r 0 11 22 (by decide), h.1.k 22 (by decide) rfl, h.gather (Or.inl rfl) hA0 hg hsh (fun σ1 h1 hA1 hB1 hP1 => ?_)⟩
  have hR1 := RS.gat h.1 hR (Or.inl rfl) hB1
  refine ⟨h1.1.k 0 (by decide) rfl, c 20, h1.1.r 0 10 20 (by decide), c s, h1.1.2.2.2.1.2.1, c 24, h1.1.r 0 12 24 (by decide), h1.1.k 24 (by decide) rfl, h1.gat20 (Or.inr rfl) hA1 hR1 hW hsh (fun σ2 h2 hA2 hB2 hP2 hR2 => ?_)⟩
  have hP1' := hP1.ag hB2 (IL.not h1.1 (by decide) (k8_n (by decide)) (by decide)) id (IL.not h1.1 (by decide) (k8_n (by decide)) (by decide))
  refine ⟨h2.1.k 0 (by decide) rfl, c 24, h2.1.r 0 12 24 (by decide), c 22, h2.1.r 0 11 22 (by decide), h2.1.k 22 (by decide) rfl, X1_hasMarksOf hP1' hP2 (fun y => ⟨fun _ => hp _ σ2 h2 hA2 hR2 (by rw [if_pos y]), fun z => absurd z (by decide)⟩) (fun y => ⟨fun z => absurd rfl z, fun _ => hp _ σ2 h2 hA2 hR2 (by rw [if_neg y])⟩)⟩
theorem T8_touched {x v : Int32} {post : Int32 → Hp → Prop} (h : T8 σ c s g t sh rl sc) (hg : WFR g.1) (hsh : SHok sh) (hp : ∀ σ', T8 σ' c s g t sh rl sc → Ag (S8 c rl.1) (S8 c rl.1) σ σ' → post (oTouch g.1 sh rl x v) σ') : P_X8_touched (c 0) x v σ post := by
  have hL := h.1
  have k0 : gk σ (c 0) = some (8, 0) := hL.k 0 (by decide) rfl
  have h10 : rl.1 ≤ 10 := hL.2.2.2.2.2.2
  unfold oTouch at hp
  unfold P_X8_touched
  refine ⟨k0, c 1, hL.r 0 0 1 (by decide), hL.k 1 (by decide) rfl, X5_standing h.2.1 ?_⟩
  by_cases hs : stn g.1 x
  rotate_left
  · rw [if_neg hs]
    rw [if_neg (fun z => hs z.1)] at hp
    exact ⟨fun _ => hp σ h Ag.rf, fun b z => by cases z⟩
  obtain ⟨q, hq, hw⟩ := h.2.1.row hs.1
  rw [if_pos hs, hq]
  refine ⟨fun z => (by cases z), fun b hb => X8_isValue ?_⟩
  cases hb
  by_cases hv : isV v
  rotate_left
  · rw [if_neg hv]
    rw [if_neg (fun z => hv z.2)] at hp
    exact ⟨fun z => absurd rfl z, fun _ => hp σ h Ag.rf⟩
  rw [if_pos hv]
  rw [if_pos ⟨hs, hv⟩] at hp
  have hi : x.toNatClampNeg < g.1.1 := by rw [icl]; have := hs.1; omega
  have h60 := hg.1
  refine ⟨fun _ => ⟨k0, c 1, hL.r 0 0 1 (by decide), c 20, hL.r 0 10 20 (by decide), hL.k 20 (by decide) rfl, X5_takeFrom (hL.k 20 (by decide) rfl) (hL.r 20 0 21 (by decide)) (hL.k 21 (by decide) rfl) h.2.1 ⟨hL.ne (by decide) (by decide) (by decide), hL.ne (by decide) (by decide) (by decide)⟩ (fun σ1 hA1 hR1 => ?_)⟩, fun z => absurd z (by decide)⟩
  obtain ⟨h1, hA1'⟩ := h.thn' hA1
  have hw1 := hw.ag hA1 (hL.n4 (k8_n (by decide)) hw.1)
  refine ⟨h1.1.k 0 (by decide) rfl, hw1.1, X4_withValue (S := fun _ => False) (T := fun _ => False) hw1 (hg.2 _ hi).1 (fun q2 σ2 hq2 hA2 hw2 => ?_)⟩
  have h2 : T8 σ2 c s g t sh rl sc := h1.ag hA2 (fun _ _ => ⟨id, id⟩) (fun _ _ => id)
  have hR2 : RS σ2 (c 20) (c 21) g.1 := hR1.ag hA2 id id id (fun _ _ => id)
  refine ⟨q2, rfl, c 20, h1.1.r 0 10 20 (by decide), h2.1.k 20 (by decide) rfl, X5_put hR2 hw2 (by omega) ?_⟩
  have hR3 := hR2.put hw2 (by omega) (by omega)
  have hA3 : Ag (fun b => b = c 20) (fun b => b = c 21) σ2 (si (sr σ2 (c 21) x.toNatClampNeg (some q2)) (c 20) 1 (nI (setR g.1 x.toNatClampNeg ((g.1.2 x.toNatClampNeg).1, v, (g.1.2 x.toNatClampNeg).2.2)).1)) :=
    Ag.wi (Ag.wr (Ag.rf (S := fun b => b = c 20) (T := fun b => b = c 21)) _ (Or.inl (show c 21 = c 21 from rfl))) _ (Or.inl (show c 20 = c 20 from rfl))
  obtain ⟨h3, hA3'⟩ := h2.thn' hA3
  have hA4 := (hA1'.tr (hA2.mono (fun _ z => z.elim) (fun _ z => z.elim))).tr hA3'
  have hR3 : RS _ (c 20) (c 21) (rhV g.1 x.toNatClampNeg v) := hR3
  generalize si (sr σ2 (c 21) x.toNatClampNeg (some q2)) (c 20) 1 (nI (setR g.1 x.toNatClampNeg ((g.1.2 x.toNatClampNeg).1, v, (g.1.2 x.toNatClampNeg).2.2)).1) = σ3 at h3 hA4 hR3 ⊢
  have hW := rhV_ok hg hi hv
  generalize rhV g.1 x.toNatClampNeg v = ρ2 at hR3 hW hp
  intro I hI
  have idle : ∀ m v b σ', v + m = 10 → rl.1 ≤ v → T8 σ' c s g t sh rl sc → post b σ' → I b (nI v) σ' := by
    intro m
    induction m with
    | zero =>
      intro v x σ' hv hr h' hp
      obtain rfl : v = 10 := by omega
      exact hI _ _ _ ⟨h'.1.k 0 (by decide) rfl, c 7, h'.1.r 0 3 7 (by decide), 10, h'.1.k 7 (by decide) rfl, fun _ => hp, fun z => absurd (by decide) z⟩
    | succ m ih =>
      intro v x σ' hv hr h' hp
      have hnone := h'.1.2.2.2.2.2.1 v (by omega) (by omega)
      refine hI _ _ _ ⟨h'.1.k 0 (by decide) rfl, c 7, h'.1.r 0 3 7 (by decide), 10, h'.1.k 7 (by decide) rfl, fun z => ?_, fun _ => ⟨vinN (by omega) (by decide), fun _ => ?_, fun b hb => ?_⟩⟩
      · rw [ile, ofn, nIi (by omega), nIi (by omega)] at z; omega
      · rw [nI_1]; exact ih (v + 1) x σ' (by omega) (by omega) h' hp
      · rw [clN (by omega), hnone] at hb; cases hb
  have key : ∀ m v b σ', v + m = rl.1 → T8 σ' c s g t sh rl sc → Ag (S8 c rl.1) (S8 c rl.1) σ σ' → RS σ' (c 20) (c 21) ρ2 → (∀ σ2, T8 σ2 c s g t sh rl sc → Ag (S8 c rl.1) (S8 c rl.1) σ σ2 → post (tco g.1 ρ2 sh rl m v b) σ2) → I b (nI v) σ' := by
    intro m
    induction m with
    | zero =>
      intro v b σ' hv h' hA hR hp
      exact idle (10 - v) v b σ' (by omega) (by omega) h' (hp σ' h' hA)
    | succ m ih =>
      intro v b σ' hv h' hA hR hp
      have hvr : v < rl.1 := by omega
      have hk := k8_rd hvr
      obtain ⟨r1, r2, r3⟩ := h'.1.2.2.2.2.1 v hvr
      refine hI _ _ _ ⟨h'.1.k 0 (by decide) rfl, c 7, h'.1.r 0 3 7 (by decide), 10, h'.1.k 7 (by decide) rfl, fun z => ?_, fun _ => ⟨vinN (by omega) (by decide), fun z => ?_, fun b1 hb => ?_⟩⟩
      · rw [ile, ofn, nIi (by omega), nIi (by omega)] at z; omega
      · rw [clN (by omega), r1] at z; cases z
      rw [clN (by omega), r1] at hb
      cases hb
      refine ⟨h'.1.1 _ _ hk.1, ?_⟩
      rw [(h'.2.2.2.2.2.1 v hvr).1, nI_1]
      refine h'.otherwise hA hg hsh hR hW (fun r σ2 h2 hA2 hR2 hr => ?_)
      have hgo := ih (v + 1) (tc1 g.1 ρ2 sh rl v b) σ2 (by omega) h2 hA2 hR2 hp
      subst hr
      unfold tc1 at hgo
      refine ⟨fun z => ?_, fun z => ?_⟩
      · by_cases y : eqp (cut (gM g.1 sh (nI (rl.2 v).1)).1) (cut (gM ρ2 sh (nI (rl.2 v).1)).1) (mk1 (gM g.1 sh (nI (rl.2 v).1)).1) (mk1 (gM ρ2 sh (nI (rl.2 v).1)).1)
        · rwa [if_pos y] at hgo
        · rw [if_neg y] at z; exact absurd z (by decide)
      · by_cases y : eqp (cut (gM g.1 sh (nI (rl.2 v).1)).1) (cut (gM ρ2 sh (nI (rl.2 v).1)).1) (mk1 (gM g.1 sh (nI (rl.2 v).1)).1) (mk1 (gM ρ2 sh (nI (rl.2 v).1)).1)
        · rw [if_pos y] at z; exact absurd rfl z
        · rwa [if_neg y] at hgo
  exact key rl.1 0 0 σ3 (by omega) h3 hA4 hR3 hp
end TOUCH8
