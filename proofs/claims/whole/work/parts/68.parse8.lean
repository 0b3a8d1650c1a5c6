section PARSE8
variable {σ σ' σ0 : Hp} {c : Nat → Nat} {s s2 q : Nat} {g : G1} {t : G2} {sh : SHT} {rl : RLT} {sc : SCT} {x : PS}
theorem C2.shp (hC : C2 σ0 c s s2 q g t sh rl sc) (h : R2 σ0 c s2 q σ x) : gk σ (c s2) = some (6, 0) ∧ gr σ (c s2) 0 = some (c (s2 + 1)) ∧ gk σ (c (s2 + 1)) = some (10, 20) ∧ ∀ k, 1 ≤ k → k < 5 → gr σ (c s2) k = some (c (s2 + 1 + k)) ∧ gk σ (c (s2 + 1 + k)) = some (10, 100) := by
  have h2 := hC.ss
  obtain ⟨w1, w2, w3, w4⟩ := hC.1.1.shp (s2 := s2) (by omega)
  have k0 := hC.old h (i := s2) (by omega)
  have k1 := hC.old h (i := s2 + 1) (by omega)
  refine ⟨by rw [k0.1]; exact w1, by rw [k0.2]; exact w2, by rw [k1.1]; exact w3, fun k h1 h5 => ?_⟩
  have kk := hC.old h (i := s2 + 1 + k) (by omega)
  rw [k0.2, kk.1]
  exact w4 k h1 h5
theorem C2.parts (hC : C2 σ0 c s s2 q g t sh rl sc) (h : R2 σ0 c s2 q σ x) {post : Int32 → Hp → Prop} (hp : post (nI (nP x)) σ) : P_X6_parts (c s2) σ post := by
  unfold P_X6_parts
  rw [h.2.2.2.1]
  exact ⟨(hC.shp h).1, hp⟩
theorem C2.room (hC : C2 σ0 c s s2 q g t sh rl sc) (h : R2 σ0 c s2 q σ x) {post : Int32 → Hp → Prop} (h1 : nP x < 20 → post 1 σ) (h0 : ¬ nP x < 20 → post 0 σ) : P_X6_hasRoomForPart (c s2) σ post := by
  have k := hC.shp h
  have h20 : nP x ≤ 20 := h.2.2.2.2.2.1
  unfold P_X6_hasRoomForPart
  have e5 : gi σ (c s2) 5 = nI (nP x) := h.2.2.2.1
  rw [e5]
  refine ⟨k.1, c (s2 + 1), k.2.1, 20, k.2.2.1, fun z => h0 ?_, fun z => h1 ?_⟩
  · rw [ofn, ile, nIi (by omega), nIi (by omega)] at z; omega
  · rw [ofn, ile, nIi (by omega), nIi (by omega)] at z; omega
theorem C2.addPart (hC : C2 σ0 c s s2 q g t sh rl sc) (h : R2 σ0 c s2 q σ x) (h20 : nP x < 20) {d : Nat} {tb : Int32} {post : Hp → Prop} (hp : ∀ σ', R2 σ0 c s2 q σ' (addP x d tb) → post σ') : P_X6_addPart (c s2) tb σ post := by
  have k := hC.shp h
  have h2 := hC.ss
  obtain ⟨v1, v2, v3, v4, v5, v6⟩ := h.2.2.2
  have v1 : gi σ (c s2) 5 = nI (nP x) := v1
  have nn : ∀ i j, i < 6 → j < 6 → i ≠ j → c (s2 + i) ≠ c (s2 + j) := fun i j hi hj hij => hC.1.1.ne (by omega) (by omega) (by omega)
  have n10 : c (s2 + 1) ≠ c s2 := hC.1.1.ne (by omega) (by omega) (by omega)
  unfold P_X6_addPart
  rw [v1]
  refine ⟨k.1, fun z => absurd z (nI_pos (by omega)), fun _ => ⟨c (s2 + 1), k.2.1, 20, k.2.2.1, fun _ => ⟨vinN h20 (by decide), ?_⟩, fun z => ?_⟩⟩
  · rw [clN (by omega), nI_1]
    refine hp _ ⟨(h.1.wi _ (Or.inl (Or.inr ⟨1, by decide, rfl⟩))).wi _ (Or.inl (Or.inr ⟨0, by decide, rfl⟩)), ?_, ?_, ?_⟩
    · rw [gi_sa (Ne.symm (hC.nq (by omega))), gi_sa (Ne.symm (hC.nq (by omega)))]; exact h.2.1
    · rw [gi_sa (Ne.symm (hC.nq (by omega))), gi_sa (Ne.symm (hC.nq (by omega)))]; exact h.2.2.1
    · refine ⟨gi_ss, by rw [gi_sk (by decide), gi_sa (Ne.symm n10)]; exact v2, by show nP x + 1 ≤ 20; omega, v4, fun p hp => ?_, fun i hi => ?_⟩
      · have hp : p < nP x + 1 := hp
        rw [gi_sa n10, gi_si]
        show _ = if p = nP x then tb else x.2.2.1.2.1 p
        by_cases hpn : p = nP x
        · rw [if_pos ⟨rfl, hpn⟩, if_pos hpn]
        · rw [if_neg (fun z => hpn z.2), if_neg hpn]; exact v5 p (by show p < nP x; omega)
      · have o : ∀ j, 2 ≤ j → j < 6 → ∀ z, gi (si (si σ (c (s2 + 1)) (nP x) tb) (c s2) 5 (nI (nP x + 1))) (c (s2 + j)) z = gi σ (c (s2 + j)) z := fun j h2j hj z => by
          rw [gi_sa (show c (s2 + j) ≠ c s2 from hC.1.1.ne (by omega) (by omega) (by omega)), gi_sa (nn j 1 hj (by decide) (by omega))]
        rw [o 2 (by decide) (by decide), o 3 (by decide) (by decide), o 4 (by decide) (by decide), o 5 (by decide) (by decide)]
        exact v6 i hi
  · rw [ofn, ilt, nIi (by omega), nIi (by omega)] at z; omega
theorem C2.addItem (hC : C2 σ0 c s s2 q g t sh rl sc) (h : R2 σ0 c s2 q σ x) (h100 : nT x < 100) {p k r pt : Nat} {r4 r5 : Int32} (hv : k ≠ 0 → r4 = nI r ∧ r5 = nI pt) {post : Hp → Prop} (hp : ∀ σ', R2 σ0 c s2 q σ' (addI x (p, k, r, pt)) → post σ') : P_X6_addItem (c s2) (nI p) (nI k) r4 r5 σ post := by
  have kk := hC.shp h
  have h2 := hC.ss
  obtain ⟨v1, v2, v3, v4, v5, v6⟩ := h.2.2.2
  have v2 : gi σ (c s2) 6 = nI (nT x) := v2
  have nn : ∀ i j, i < 6 → j < 6 → i ≠ j → c (s2 + i) ≠ c (s2 + j) := fun i j hi hj hij => hC.1.1.ne (by omega) (by omega) (by omega)
  have n0 : ∀ i, 0 < i → i < 6 → c (s2 + i) ≠ c s2 := fun i h0 hi => hC.1.1.ne (by omega) (by omega) (by omega)
  obtain ⟨a1, b1⟩ := kk.2.2.2 1 (by decide) (by decide)
  obtain ⟨a2, b2⟩ := kk.2.2.2 2 (by decide) (by decide)
  obtain ⟨a3, b3⟩ := kk.2.2.2 3 (by decide) (by decide)
  obtain ⟨a4, b4⟩ := kk.2.2.2 4 (by decide) (by decide)
  have hvn : vp_in (nI (nT x)) 100 := vinN h100 (by decide)
  unfold P_X6_addItem
  rw [v2]
  refine ⟨kk.1, fun z => absurd z (nI_pos (by omega)), fun _ => ⟨fun _ => ⟨_, a1, 100, b1, hvn, _, a2, 100, b2, hvn, _, a3, 100, b3, hvn, _, a4, 100, b4, hvn, ?_⟩, fun z => ?_⟩⟩
  · rw [clN (by omega), nI_1]
    show post (si (si (si (si (si σ (c (s2 + 2)) (nT x) (nI p)) (c (s2 + 3)) (nT x) (nI k)) (c (s2 + 4)) (nT x) r4) (c (s2 + 5)) (nT x) r5) (c s2) 6 (nI (nT x + 1)))
    refine hp _ ⟨((((h.1.wi _ (Or.inl (Or.inr ⟨2, by decide, rfl⟩))).wi _ (Or.inl (Or.inr ⟨3, by decide, rfl⟩))).wi _ (Or.inl (Or.inr ⟨4, by decide, rfl⟩))).wi _ (Or.inl (Or.inr ⟨5, by decide, rfl⟩))).wi _ (Or.inl (Or.inr ⟨0, by decide, rfl⟩)), ?_, ?_, ?_⟩
    · rw [gi_sa (Ne.symm (hC.nq (by omega))), gi_sa (Ne.symm (hC.nq (by omega))), gi_sa (Ne.symm (hC.nq (by omega))), gi_sa (Ne.symm (hC.nq (by omega))), gi_sa (Ne.symm (hC.nq (by omega)))]; exact h.2.1
    · rw [gi_sa (Ne.symm (hC.nq (by omega))), gi_sa (Ne.symm (hC.nq (by omega))), gi_sa (Ne.symm (hC.nq (by omega))), gi_sa (Ne.symm (hC.nq (by omega))), gi_sa (Ne.symm (hC.nq (by omega)))]; exact h.2.2.1
    · refine ⟨?_, gi_ss, v3, by show nT x + 1 ≤ 100; omega, fun p hp => ?_, fun i hi => ?_⟩
      · rw [gi_sk (by decide), gi_sa (Ne.symm (n0 5 (by decide) (by decide))), gi_sa (Ne.symm (n0 4 (by decide) (by decide))), gi_sa (Ne.symm (n0 3 (by decide) (by decide))), gi_sa (Ne.symm (n0 2 (by decide) (by decide)))]; exact v1
      · rw [gi_sa (n0 1 (by decide) (by decide)), gi_sa (nn 1 5 (by decide) (by decide) (by decide)), gi_sa (nn 1 4 (by decide) (by decide) (by decide)), gi_sa (nn 1 3 (by decide) (by decide) (by decide)), gi_sa (nn 1 2 (by decide) (by decide) (by decide))]; exact v5 p hp
      · have hi : i < nT x + 1 := hi
        have o2 : gi (si (si (si (si (si σ (c (s2 + 2)) (nT x) (nI p)) (c (s2 + 3)) (nT x) (nI k)) (c (s2 + 4)) (nT x) r4) (c (s2 + 5)) (nT x) r5) (c s2) 6 (nI (nT x + 1))) (c (s2 + 2)) i = if i = nT x then nI p else gi σ (c (s2 + 2)) i := by
          rw [gi_sa (n0 2 (by decide) (by decide)), gi_sa (nn 2 5 (by decide) (by decide) (by decide)), gi_sa (nn 2 4 (by decide) (by decide) (by decide)), gi_sa (nn 2 3 (by decide) (by decide) (by decide)), gi_si]
          by_cases hin : i = nT x
          · rw [if_pos ⟨rfl, hin⟩, if_pos hin]
          · rw [if_neg (fun z => hin z.2), if_neg hin]
        have o3 : gi (si (si (si (si (si σ (c (s2 + 2)) (nT x) (nI p)) (c (s2 + 3)) (nT x) (nI k)) (c (s2 + 4)) (nT x) r4) (c (s2 + 5)) (nT x) r5) (c s2) 6 (nI (nT x + 1))) (c (s2 + 3)) i = if i = nT x then nI k else gi σ (c (s2 + 3)) i := by
          rw [gi_sa (n0 3 (by decide) (by decide)), gi_sa (nn 3 5 (by decide) (by decide) (by decide)), gi_sa (nn 3 4 (by decide) (by decide) (by decide)), gi_si]
          by_cases hin : i = nT x
          · rw [if_pos ⟨rfl, hin⟩, if_pos hin]
          · rw [if_neg (fun z => hin z.2), if_neg hin, gi_sa (nn 3 2 (by decide) (by decide) (by decide))]
        have o4 : gi (si (si (si (si (si σ (c (s2 + 2)) (nT x) (nI p)) (c (s2 + 3)) (nT x) (nI k)) (c (s2 + 4)) (nT x) r4) (c (s2 + 5)) (nT x) r5) (c s2) 6 (nI (nT x + 1))) (c (s2 + 4)) i = if i = nT x then r4 else gi σ (c (s2 + 4)) i := by
          rw [gi_sa (n0 4 (by decide) (by decide)), gi_sa (nn 4 5 (by decide) (by decide) (by decide)), gi_si]
          by_cases hin : i = nT x
          · rw [if_pos ⟨rfl, hin⟩, if_pos hin]
          · rw [if_neg (fun z => hin z.2), if_neg hin, gi_sa (nn 4 3 (by decide) (by decide) (by decide)), gi_sa (nn 4 2 (by decide) (by decide) (by decide))]
        have o5 : gi (si (si (si (si (si σ (c (s2 + 2)) (nT x) (nI p)) (c (s2 + 3)) (nT x) (nI k)) (c (s2 + 4)) (nT x) r4) (c (s2 + 5)) (nT x) r5) (c s2) 6 (nI (nT x + 1))) (c (s2 + 5)) i = if i = nT x then r5 else gi σ (c (s2 + 5)) i := by
          rw [gi_sa (n0 5 (by decide) (by decide)), gi_si]
          by_cases hin : i = nT x
          · rw [if_pos ⟨rfl, hin⟩, if_pos hin]
          · rw [if_neg (fun z => hin z.2), if_neg hin, gi_sa (nn 5 4 (by decide) (by decide) (by decide)), gi_sa (nn 5 3 (by decide) (by decide) (by decide)), gi_sa (nn 5 2 (by decide) (by decide) (by decide))]
        rw [o2, o3, o4, o5]
        show (if i = nT x then nI p else gi σ (c (s2 + 2)) i) = nI (itx (addI x (p, k, r, pt)) i).1 ∧ (if i = nT x then nI k else gi σ (c (s2 + 3)) i) = nI (itx (addI x (p, k, r, pt)) i).2.1 ∧ ((itx (addI x (p, k, r, pt)) i).2.1 ≠ 0 → (if i = nT x then r4 else gi σ (c (s2 + 4)) i) = nI (itx (addI x (p, k, r, pt)) i).2.2.1 ∧ (if i = nT x then r5 else gi σ (c (s2 + 5)) i) = nI (itx (addI x (p, k, r, pt)) i).2.2.2)
        by_cases hin : i = nT x
        · rw [if_pos hin, if_pos hin, if_pos hin, if_pos hin, hin, addI_s]
          exact ⟨rfl, rfl, hv⟩
        · rw [if_neg hin, if_neg hin, if_neg hin, if_neg hin, addI_n _ _ hin]
          exact v6 i (by show i < nT x; omega)
  · rw [ilt, nIi (by omega), show (100 : Int32).toInt = 100 by decide] at z; omega
/-- a part read by G -/
def AP2 (σ0 : Hp) (c : Nat → Nat) (s2 q : Nat) (t : G2) (M D : Nat) (G : Nat → Int32 → Hp → (Int32 → Hp → Prop) → Prop) : Prop := ∀ d x σ post, D + d = 7 → TKW t x → 2 * nT x ≤ x.1 → WP x d → R2 σ0 c s2 q σ x → (∀ σ', R2 σ0 c s2 q σ' (prt t M D d x).2 → post (if (prt t M D d x).1 = true then 1 else 0) σ') → G q (nI d) σ post
theorem if01 {b : Bool} : (if b = true then (1 : Int32) else 0) = 0 ∨ (if b = true then (1 : Int32) else 0) = 1 := by cases b <;> decide
/-- an item up or down, behind its first word -/
theorem C2.tail (hC : C2 σ0 c s s2 q g t sh rl sc) {M D : Nat} {G : Nat → Int32 → Hp → (Int32 → Hp → Prop) → Prop} (hG : AP2 σ0 c s2 q t M D G) {p d : Nat} (hd : D + d = 7) (hx : TKW t x) (hn : 2 * nT x + 2 ≤ x.1) (hW : WS x) (hpp : p < nP x) (hl : x.2.2.2 p + 1 = d) (hd6 : d ≤ 6) (h : R2 σ0 c s2 q σ x) (h1 : ¬ wrd t x wV) (h2 : wrd t x wU ∨ wrd t x wD) {r2 : Int32} (hr2 : r2 = if wrd t x wU then 1 else 0) {post : Int32 → Hp → Prop} (hp : ∀ σ', R2 σ0 c s2 q σ' (itm t (prt t M D) p d x).2 → post (if (itm t (prt t M D) p d x).1 = true then 1 else 0) σ') :
    P_X2_advance q σ (fun (σ3 : Hp) => gk σ3 q = some (2, 0) ∧ P_X2_referenceHere q σ3 (fun (r4 : Int32) (σ4 : Hp) => (¬ r4 = (-1 : Int32) → gk σ4 q = some (2, 0) ∧ P_X2_advance q σ4 (fun (σ5 : Hp) => gk σ5 q = some (2, 0) ∧ (r2 = 0 → ∃ b6 : Nat, (gr σ5 q 1) = some b6 ∧ gk σ5 b6 = some (6, 0) ∧ P_X6_parts b6 σ5 (fun (r7 : Int32) (σ7 : Hp) => gk σ7 b6 = some (6, 0) ∧ P_X6_addItem b6 (nI p) (2 : Int32) r4 r7 σ7 (fun (σ8 : Hp) => gk σ8 q = some (2, 0) ∧ G q (nI d) σ8 (fun (r9 : Int32) (σ9 : Hp) => (r9 = 0 ∨ r9 = 1) ∧ post r9 σ9)))) ∧ (¬ (r2 = 0) → ∃ b10 : Nat, (gr σ5 q 1) = some b10 ∧ gk σ5 b10 = some (6, 0) ∧ P_X6_parts b10 σ5 (fun (r11 : Int32) (σ11 : Hp) => gk σ11 b10 = some (6, 0) ∧ P_X6_addItem b10 (nI p) (1 : Int32) r4 r11 σ11 (fun (σ12 : Hp) => gk σ12 q = some (2, 0) ∧ G q (nI d) σ12 (fun (r13 : Int32) (σ13 : Hp) => (r13 = 0 ∨ r13 = 1) ∧ post r13 σ13)))))) ∧ (r4 = (-1 : Int32) → post (0 : Int32) σ4))) := by
  have hT := hC.tok
  have h200 : t.1 ≤ 200 := hT.1
  have hxl := hx.le hT
  have hb : byt t x.1 ≠ -1 := by
    rcases h2 with z | z
    · exact wrd_m1 z (by decide) (by decide)
    · exact wrd_m1 z (by decide) (by decide)
  have ha := adv_gt hT hx hb
  have hal := ha.1.le hT
  unfold itm at hp
  rw [if_neg h1, if_pos h2] at hp
  refine hC.advn h (by omega) (fun σ3 h3 => ⟨(hC.qq h3).1, hC.refer h3 (by omega) (by omega) ⟨fun z => ?_, fun z => ?_⟩⟩)
  rotate_left
  · rw [if_pos z] at hp
    exact hp σ3 h3
  rw [if_neg z] at hp
  have ha2 := adv_gt hT ha.1 (rfh_m1 z)
  have hal2 := ha2.1.le hT
  refine ⟨(hC.qq h3).1, hC.advn h3 (by omega) (fun σ5 h5 => ?_)⟩
  have hrr : rfh t (adv t x) = nI (rfh t (adv t x)).toNatClampNeg := by
    rcases (rfh_b z).2.1 with y | y <;> rw [y] <;> rfl
  have hr1 : (rfh t (adv t x)).toNatClampNeg ≤ 1 := by
    rcases (rfh_b z).2.1 with y | y <;> rw [y] <;> decide
  have hW5 : WS (adv t (adv t x)) := WS.adv (WS.adv hW)
  have e1 : nP (adv t (adv t x)) = nP x := rfl
  have e2 : nT (adv t (adv t x)) = nT x := rfl
  have e3 : (adv t (adv t x)).2.2.2 p = x.2.2.2 p := rfl
  have kq := hC.qq h5
  have ks := (hC.shp h5).1
  generalize adv t (adv t x) = y at *
  have go : ∀ k : Nat, k ≠ 0 → k ≤ 2 → k = (if wrd t x wU then 1 else 2) → ∀ σ8, R2 σ0 c s2 q σ8 (addI y (p, k, (rfh t (adv t x)).toNatClampNeg, nP y)) → gk σ8 q = some (2, 0) ∧ G q (nI d) σ8 (fun (r9 : Int32) (σ9 : Hp) => (r9 = 0 ∨ r9 = 1) ∧ post r9 σ9) := fun k hk0 hk2 hk σ8 h8 => by
    have hW2 : WP (addI y (p, k, (rfh t (adv t x)).toNatClampNeg, nP y)) d := by
      rw [← hl, ← e3]
      exact WS.addU hW5 (by omega) (by omega) hk2 hr1
    have hit : itU t x p = (p, k, (rfh t (adv t x)).toNatClampNeg, nP y) := by rw [hk, e1]
    rw [hit] at hp
    exact ⟨(hC.qq h8).1, hG d (addI y (p, k, (rfh t (adv t x)).toNatClampNeg, nP y)) σ8 _ hd ha2.1 (by show 2 * (nT y + 1) ≤ y.1; omega) hW2 h8 (fun σ9 h9 => ⟨if01, hp σ9 h9⟩)⟩
  refine ⟨kq.1, fun w => ⟨c s2, kq.2.2, ks, hC.parts h5 ⟨ks, ?_⟩⟩, fun w => ⟨c s2, kq.2.2, ks, hC.parts h5 ⟨ks, ?_⟩⟩⟩
  · have hnu : ¬ wrd t x wU := fun u => by rw [hr2, if_pos u] at w; exact absurd w (by decide)
    exact hC.addItem h5 (by omega) (k := 2) (fun _ => ⟨hrr, rfl⟩) (fun σ8 h8 => go 2 (by decide) (by decide) (by rw [if_neg hnu]) σ8 h8)
  · have hu : wrd t x wU := Classical.byContradiction fun u => by rw [hr2, if_neg u] at w; exact w rfl
    exact hC.addItem h5 (by omega) (k := 1) (fun _ => ⟨hrr, rfl⟩) (fun σ8 h8 => go 1 (by decide) (by decide) (by rw [if_pos hu]) σ8 h8)
theorem C2.item (hC : C2 σ0 c s s2 q g t sh rl sc) {M D : Nat} {G : Nat → Int32 → Hp → (Int32 → Hp → Prop) → Prop} (hG : AP2 σ0 c s2 q t M D G) {p d : Nat} (hd : D + d = 7) (hx : TKW t x) (hn : 2 * nT x + 2 ≤ x.1) (hW : WS x) (hpp : p < nP x) (hl : x.2.2.2 p + 1 = d) (hd6 : d ≤ 6) (h : R2 σ0 c s2 q σ x) {post : Int32 → Hp → Prop} (hp : ∀ σ', R2 σ0 c s2 q σ' (itm t (prt t M D) p d x).2 → post (if (itm t (prt t M D) p d x).1 = true then 1 else 0) σ') : O_X2_readItem G q (nI p) (nI d) σ post := by
  have hT := hC.tok
  have h200 : t.1 ≤ 200 := hT.1
  have hxl := hx.le hT
  have kq := hC.qq h
  unfold O_X2_readItem
  refine ⟨kq.1, hC.word h (by omega) (w := 0) (by decide) (fun z => ?_) (fun z => ?_)⟩
  · have z : wrd t x wV := z
    unfold itm at hp
    rw [if_pos z] at hp
    have ha := adv_gt hT (x := addI x (p, 0, 0, 0)) hx (wrd_m1 z (by decide) (by decide))
    refine ⟨fun y => absurd y (by decide), fun _ => ⟨kq.1, c s2, kq.2.2, (hC.shp h).1, hC.addItem h (by omega) (k := 0) (r := 0) (pt := 0) (fun y => absurd rfl y) (fun σ1 h1 => ⟨(hC.qq h1).1, hC.advn h1 (by show x.2.1 ≤ 200; omega) (fun σ2 h2 => hp σ2 h2)⟩)⟩⟩
  · have z : ¬ wrd t x wV := z
    refine ⟨fun _ => ⟨kq.1, hC.word h (by omega) (w := 1) (by decide) (fun y => ?_) (fun y => ?_)⟩, fun y => absurd rfl y⟩
    · have y : wrd t x wU := y
      exact ⟨fun _ => ⟨kq.1, hC.tail hG hd hx hn hW hpp hl hd6 h z (Or.inl y) (by rw [if_pos y]) hp⟩, fun w => absurd w (by decide)⟩
    · have y : ¬ wrd t x wU := y
      refine ⟨fun w => absurd rfl w, fun _ => ⟨kq.1, hC.word h (by omega) (w := 2) (by decide) (fun w => ?_) (fun w => ?_)⟩⟩
      · have w : wrd t x wD := w
        exact ⟨fun _ => ⟨kq.1, hC.tail hG hd hx hn hW hpp hl hd6 h z (Or.inr w) (by rw [if_neg y]) hp⟩, fun u => absurd u (by decide)⟩
      · have w : ¬ wrd t x wD := w
        unfold itm at hp
        rw [if_neg z, if_neg (fun u => u.elim y w)] at hp
        exact ⟨fun u => absurd rfl u, fun _ => hp σ h⟩
theorem C2.items (hC : C2 σ0 c s s2 q g t sh rl sc) {M D : Nat} (hM : M = 100) {G : Nat → Int32 → Hp → (Int32 → Hp → Prop) → Prop} (hG : AP2 σ0 c s2 q t M D G) {p d : Nat} (hd : D + d = 7) (hd6 : d ≤ 6) (hx : TKW t x) (hn : 2 * nT x + 2 ≤ x.1) (hW : WS x) (hpp : p < nP x) (hl : x.2.2.2 p + 1 = d) (h : R2 σ0 c s2 q σ x) {post : Int32 → Hp → Prop} (hp : ∀ σ', R2 σ0 c s2 q σ' (itms t (prt t M D) p d M x).2 → post (if (itms t (prt t M D) p d M x).1 = true then 1 else 0) σ') : O_X2_readItems (O_X2_readItem G) q (nI p) (nI d) σ post := by
  have hT := hC.tok
  have h200 : t.1 ≤ 200 := hT.1
  unfold O_X2_readItems
  intro I hI
  have key : ∀ m v x σ, v + m = M → TKW t x → 2 * nT x + 2 ≤ x.1 → WS x → p < nP x → x.2.2.2 p + 1 = d → R2 σ0 c s2 q σ x → (∀ σ', R2 σ0 c s2 q σ' (itms t (prt t M D) p d m x).2 → post (if (itms t (prt t M D) p d m x).1 = true then 1 else 0) σ') → I (nI v) σ := by
    intro m
    induction m with
    | zero =>
      intro v x σ hv hx hn hW hpp hl h hp
      refine hI _ _ ⟨fun _ => hp σ h, fun z => ?_⟩
      rw [ile, nIi (by omega), show (100 : Int32).toInt = 100 by decide] at z; omega
    | succ m ih =>
      intro v x σ hv hx hn hW hpp hl h hp
      have hok := itm_ok hT (prt_ok hT M D) hd hx hn hW hpp hl hd6
      have hgo := ih (v + 1) (adv t (itm t (prt t M D) p d x).2)
      unfold itms at hp
      refine hI _ _ ⟨fun z => ?_, fun _ => ⟨(hC.qq h).1, hC.item hG hd hx hn hW hpp hl hd6 h (fun σ1 h1 => ?_)⟩⟩
      · rw [ile, nIi (by omega), show (100 : Int32).toInt = 100 by decide] at z; omega
      generalize itm t (prt t M D) p d x = r at hok hgo hp h1 ⊢
      obtain ⟨w1, w2, w3⟩ := hok
      have hrl := w1.le hT
      cases hb : r.1 with
      | false =>
        rw [if_pos hb] at hp
        exact ⟨fun z => absurd rfl z, fun _ => hp σ1 h1⟩
      | true =>
        rw [if_neg (by rw [hb]; exact fun z => ft z.symm)] at hp
        obtain ⟨u1, u2⟩ := w3 hb
        refine ⟨fun _ => ⟨(hC.qq h1).1, hC.sign h1 (by omega) (fun y => ?_) (fun y => ?_)⟩, fun z => absurd z (by decide)⟩
        · rw [if_pos y] at hp
          have ha := adv_gt hT w1 (by rw [show byt t r.2.1 = 125 from y]; decide)
          exact ⟨fun _ => ⟨(hC.qq h1).1, hC.advn h1 (by omega) (fun σ2 h2 => ⟨fun z => absurd z (by decide), fun _ => hp σ2 h2⟩)⟩, fun z => absurd z (by decide)⟩
        · rw [if_neg y] at hp
          refine ⟨fun z => absurd rfl z, fun _ => ⟨(hC.qq h1).1, hC.sign h1 (by omega) (fun w => ?_) (fun w => ?_)⟩⟩
          · rw [if_pos w] at hp
            have ha := adv_gt hT w1 (by rw [show byt t r.2.1 = 44 from w]; decide)
            refine ⟨fun _ => ⟨(hC.qq h1).1, hC.advn h1 (by omega) (fun σ2 h2 => ⟨fun _ => ?_, fun z => absurd rfl z⟩)⟩, fun z => absurd z (by decide)⟩
            rw [nI_1]
            have hle := w2.1
            have hlv := w2.2.2.2 p hpp
            exact hgo σ2 (by omega) ha.1 (adv_nT (by omega)) (WS.adv u2) (adv_nP (by omega)) (adv_lv (by rw [hlv]; exact hl)) h2 hp
          · rw [if_neg w] at hp
            exact ⟨fun z => absurd rfl z, fun _ => hp σ1 h1⟩
  exact key M 0 x σ (by omega) hx hn hW hpp hl h hp
theorem C2.part1 (hC : C2 σ0 c s s2 q g t sh rl sc) {M D : Nat} (hM : M = 100) {G : Nat → Int32 → Hp → (Int32 → Hp → Prop) → Prop} (hG : 0 < D → AP2 σ0 c s2 q t M D G) : AP2 σ0 c s2 q t M (D + 1) (O_X2_readPart (O_X2_readItems (O_X2_readItem G))) := by
  intro d x σ post hd hx hn hW h hp
  have hT := hC.tok
  have h200 : t.1 ≤ 200 := hT.1
  have hxl := hx.le hT
  have kq := hC.qq h
  unfold O_X2_readPart
  unfold prt at hp
  refine ⟨kq.1, hC.table h (by omega) ⟨fun z => ?_, fun z => ⟨kq.1, c s2, kq.2.2, (hC.shp h).1, hC.room h (fun y => ?_) (fun y => ?_)⟩⟩⟩
  · rw [if_pos (Or.inl z)] at hp
    exact hp σ h
  rotate_left
  · rw [if_pos (Or.inr y)] at hp
    exact ⟨fun w => absurd rfl w, fun _ => hp σ h⟩
  rw [if_neg (fun w => w.elim z (fun u => u y))] at hp
  obtain ⟨r1, r2, r3, r4, r5, r6, r7⟩ := pA_ok hT hx hn hW z y
  refine ⟨fun _ => ⟨kq.1, c s2, kq.2.2, (hC.shp h).1, hC.parts h ⟨kq.1, c s2, kq.2.2, (hC.shp h).1, hC.addPart h y (d := d) (fun σ1 h1 => ⟨(hC.qq h1).1, hC.advn h1 (by show x.2.1 ≤ 200; omega) (fun σ2 h2 => ?_)⟩)⟩⟩, fun w => absurd w (by decide)⟩
  have h2 : R2 σ0 c s2 q σ2 (pA t d x) := h2
  generalize pA t d x = y1 at r1 r2 r3 r4 r5 r6 r7 h2 hp
  have hyl := r1.le hT
  refine ⟨(hC.qq h2).1, hC.sign h2 (by omega) (fun w => ?_) (fun w => ?_)⟩
  rotate_left
  · rw [if_pos w] at hp
    exact ⟨fun u => absurd rfl u, fun _ => hp σ2 h2⟩
  rw [if_neg (fun u => u w)] at hp
  refine ⟨fun _ => ⟨fun u => ⟨(hC.qq h2).1, hC.advn h2 (by omega) (fun σ3 h3 => ⟨(hC.qq h3).1, ?_⟩)⟩, fun u => ?_⟩, fun u => absurd u (by decide)⟩
  · rw [ilt, nIi (by omega), show (6 : Int32).toInt = 6 by decide] at u
    rw [if_neg (fun v => v (by omega))] at hp
    have ha := adv_gt hT r1 (by rw [show byt t y1.1 = 123 from w]; decide)
    rw [nI_1]
    exact hC.items hM (hG (by omega)) (d := d + 1) (by omega) (by omega) ha.1 (adv_nT (by omega)) (WS.adv r5) (adv_nP (by omega)) (adv_lv (by omega)) h3 (fun σ4 h4 => ⟨if01, hp σ4 h4⟩)
  · rw [ilt, nIi (by omega), show (6 : Int32).toInt = 6 by decide] at u
    rw [if_pos (by omega)] at hp
    exact hp σ2 h2
theorem C2.part (hC : C2 σ0 c s s2 q g t sh rl sc) {M : Nat} (hM : M = 100) : ∀ D D', 0 < D → D < D' → AP2 σ0 c s2 q t M D (PD_X2_readPart D') := by
  intro D
  induction D with
  | zero => intro D' h0; exact absurd h0 (Nat.lt_irrefl 0)
  | succ D ih =>
    intro D' _ hD
    obtain ⟨D', rfl⟩ : ∃ D2, D' = D2 + 1 := ⟨D' - 1, by omega⟩
    unfold PD_X2_readPart
    exact hC.part1 hM (fun h0 => ih D' h0 (by omega))
theorem C2.text (hC : C2 σ0 c s s2 q g t sh rl sc) {M D : Nat} (hM : M = 100) (hD : D = 7) (h : R2 σ0 c s2 q σ ps0) {post : Int32 → Hp → Prop} (hp : ∀ σ', R2 σ0 c s2 q σ' (txt t M D).2 → post (if (txt t M D).1 = true then 1 else 0) σ') : P_X2_readText q σ post := by
  have hT := hC.tok
  have h200 : t.1 ≤ 200 := hT.1
  have kq := hC.qq h
  unfold P_X2_readText P_X2_readPart
  have ha := adv_ok hT (x := ps0) (Nat.zero_le _)
  refine ⟨kq.1, hC.advn h (Nat.zero_le _) (fun σ1 h1 => ⟨(hC.qq h1).1, ?_⟩)⟩
  refine (hC.part hM D 9 (by omega) (by omega)) 0 (adv t ps0) σ1 _ (by omega) ha.1 (Nat.zero_le _) (WP_0 t) h1 (fun σ2 h2 => ?_)
  have hok := prt_ok hT M D 0 (adv t ps0) (by omega) ha.1 (Nat.zero_le _) (WP_0 t)
  unfold txt at hp
  generalize prt t M D 0 (adv t ps0) = r at hok hp h2 ⊢
  have hrl := hok.1.le hT
  cases hb : r.1 with
  | false =>
    rw [if_pos hb] at hp
    exact ⟨fun _ => hp σ2 h2, fun z => absurd rfl z⟩
  | true =>
    rw [if_neg (by rw [hb]; exact fun z => ft z.symm)] at hp
    have k5 := hC.old h2 (i := 5) (by decide)
    have kk : gk σ2 (c 5) = some (7, 0) := by rw [k5.1]; exact hC.1.1.k 5 (by decide) rfl
    refine ⟨fun z => absurd z (by decide), fun _ => ⟨(hC.qq h2).1, (hC.qq h2).1, c 5, (hC.qq h2).2.1, kk, kk, ?_⟩⟩
    have hss := hC.ss
    rw [h2.2.1, hC.int h2 (i := 5) (by decide) (by omega), hC.1.2.2.2.1.1]
    show (nI r.2.1 < nI t.1 → _) ∧ (¬ (nI r.2.1 < nI t.1) → _)
    rw [ilt, nIi (by omega), nIi (by omega)]
    refine ⟨fun z => ⟨fun _ => ?_, fun y => absurd rfl y⟩, fun z => ⟨fun y => absurd y (by decide), fun _ => ?_⟩⟩
    · rw [if_pos (by omega)] at hp
      exact hp σ2 h2
    · rw [if_neg (by omega)] at hp
      exact hp σ2 h2
end PARSE8
