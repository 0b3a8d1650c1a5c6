section MAKE9
variable {σ σ' σ0 : Hp} {a : Nat} {e : Nat → Nat} {g : G1} {t : G2} {sh : SHT} {rl : RLT} {sc : SCT} {st st' : PST}
abbrev fr0 : FRT := fun _ => (0, 0, 0)
theorem T9.make {x : Int32} {post : Hp → Prop} (h : T9 σ a e g t sh rl sc) (hW : WFR g.1) (hsh : SHok sh) (hp : ∀ σ', N9 σ a e g t sh rl sc σ' (gM g.1 sh x) 0 fr0 → post σ') : P_X9_make a x σ post := by
  unfold P_X9_make
  refine ⟨h.1.1, ?_⟩
  intro I hI
  obtain ⟨lv, l0, l20, l100, ltb, lit⟩ := hsh
  have key : ∀ m v σ1, v + m = 60 → T9 σ1 a e g t sh rl sc → SK σ σ1 → Fr (W9 a e) σ σ1 → (∀ j, gi σ1 (e 54) j = gi σ (e 54) j) → gi σ1 a 40 = 0 → gi σ1 a 47 = 0 → (∀ r, r < v → gi σ1 (e 43) r = 0) → I (nI v) σ1 := by
    intro m
    induction m with
    | zero =>
      intro v σ1 hv hT hs hf h54 h40 h47 h43
      obtain rfl : v = 60 := by omega
      refine hI _ _ ⟨fun _ => ?_, fun z => absurd (by decide) z⟩
      have hN : N9 σ a e g t sh rl sc σ1 ([], fun _ => false) 0 fr0 := ⟨hT, hs, hf, h54, ⟨h40, fun j hj => absurd hj (Nat.not_lt_zero _), fun r hr => by rw [h43 r hr]; rfl⟩, h47, fun j hj => absurd hj (Nat.not_lt_zero _)⟩
      unfold gM at hp
      have hL := hT.1
      refine ⟨hL.1, fun z => ?_, fun z => hT.isRow (fun hst => ⟨fun y => absurd y (by decide), fun _ => ⟨hL.1, e 10, hL.r 10 rfl, 60, hL.k 10 rfl, vin hst.1.1 (by have := hW.1; have := hst.1.2; omega), e 15, hL.r 15 rfl, 20, hL.k 15 rfl, vinN (k := 0) (by decide) (by decide), fun y => ?_, fun y => ?_⟩⟩) (fun hst => ⟨fun _ => ?_, fun y => absurd rfl y⟩)⟩
      · rw [hT.2.2.2.2.1.1, show (0 : Int32) = nI 0 from rfl, nI_k (by omega) (by decide)] at z
        rw [if_neg (fun y => y.1 z)] at hp
        exact hp _ hN
      · rw [hT.2.2.2.2.1.1, show (0 : Int32) = nI 0 from rfl, nI_k (by omega) (by decide)] at z
        have hlt : x.toNatClampNeg < g.1.1 := by rw [icl]; have := hst.1; omega
        rw [(hT.2.1.2.2 _ hlt).1, show (Int32.toNatClampNeg (0 : Int32)) = 0 from rfl, (hT.2.2.2.2.1.2.1 0 (by omega)).1] at y
        rw [if_pos ⟨z, hst, y⟩] at hp
        have hx : x = nI x.toNatClampNeg := (nI_cl hst.1.1).symm
        rw [hx, show (0 : Int32) = nI 0 from rfl]
        refine hN.begin (by decide) (by omega) l20 hlt (fun hb => Bool.noConfusion (show false = true from hb)) (fun hb σ' h' => ?_)
        intro J hJ
        have hpart := make_part (σ0 := σ) (a := a) (e := e) (g := g) (t := t) (rl := rl) (sc := sc) (lv := lv) (show SHlv sh lv from lit) hW l100 l20 hJ
        refine make_body (lv := lv) (d := 6) (p := 0) (fr := fr0) (show SHlv sh lv from lit) hW l100 l20 hJ (fun d' _ => hpart d') (by omega) (by omega) hlt hb (by rw [l0]; exact h') (fun σ2 h2 => ?_)
        rw [l0] at h2
        refine hJ _ ⟨h2.1.1.1, fun _ => hp _ h2, fun w => ?_⟩
        rw [h2.2.2.2.2.2.1] at w
        exact absurd (by decide) w
      · rw [hT.2.2.2.2.1.1, show (0 : Int32) = nI 0 from rfl, nI_k (by omega) (by decide)] at z
        have hlt : x.toNatClampNeg < g.1.1 := by rw [icl]; have := hst.1; omega
        rw [(hT.2.1.2.2 _ hlt).1, show (Int32.toNatClampNeg (0 : Int32)) = 0 from rfl, (hT.2.2.2.2.1.2.1 0 (by omega)).1] at y
        rw [if_neg (fun w => y w.2.2)] at hp
        exact hp _ hN
      · rw [if_neg (fun y => hst y.2.1)] at hp
        exact hp _ hN
    | succ m ih =>
      intro v σ1 hv hT hs hf h54 h40 h47 h43
      have hL := hT.1
      refine hI _ _ ⟨fun z => ?_, fun _ => ⟨hL.1, e 43, hL.r 43 rfl, 60, hL.k 43 rfl, vinN (by omega) (by decide), ?_⟩⟩
      · rw [ile, nIi (by omega), show (60 : Int32).toInt = 60 by decide] at z; omega
      · rw [clN (by omega), nI_1]
        refine ih (v + 1) _ (by omega) (hT.we 0 (by decide) (by decide)) (hs.tr (SK.wi _ _ _)) (hf.wi _ (Or.inr ⟨43, by decide, rfl⟩)) (fun j => by rw [hL.ea (by decide) (by decide) (by decide)]; exact h54 j) (by rw [hL.eo (by decide)]; exact h40) (by rw [hL.eo (by decide)]; exact h47) (fun r hr => ?_)
        by_cases hrv : r = v
        · rw [hrv]; exact gi_ss
        · rw [gi_sk hrv]; exact h43 r (by omega)
  have hL := h.1
  refine key 60 0 _ rfl ((h.wa 0 (by decide)).wa 0 (by decide)) ((SK.wi _ _ _).tr (SK.wi _ _ _)) ((Fr.rf.ob _ _).ob _ _) (fun j => by rw [gi_sa (hL.na 54 (by decide)), gi_sa (hL.na 54 (by decide))]) (by rw [gi_sk (by decide)]; exact gi_ss) gi_ss (fun r hr => absurd hr (Nat.not_lt_zero _))
end MAKE9
