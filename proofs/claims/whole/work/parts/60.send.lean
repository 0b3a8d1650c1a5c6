/-! send -/
def rlS (g : G1) (sh : SHT) (rl : RLT) (j : Nat) : RLT := (rl.1, fun i => if i = j then ((rl.2 j).1, cut (gR g sh rl j).1, mk1 (gR g sh rl j).1, mk2 (gR g sh rl j).1) else rl.2 i)
theorem rlS_s (g : G1) (sh : SHT) (rl : RLT) (j : Nat) : (rlS g sh rl j).2 j = ((rl.2 j).1, cut (gR g sh rl j).1, mk1 (gR g sh rl j).1, mk2 (gR g sh rl j).1) := if_pos rfl
theorem rlS_n (g : G1) (sh : SHT) (rl : RLT) {i j : Nat} (h : i ≠ j) : (rlS g sh rl j).2 i = rl.2 i := if_neg h
/-- readers, bits, how often sent -/
abbrev SDT : Type := RLT × Int32 × Int32
def sd1 (g : G1) (sh : SHT) (j : Nat) (x : SDT) : SDT := if hld g sh x.1 j then x else (rlS g sh x.1 j, x.2.1 ||| ((1 : Int32) <<< (nI j &&& 31)), x.2.2 + 1)
def sdo (g : G1) (sh : SHT) : Nat → Nat → SDT → SDT
  | 0, _, x => x
  | m + 1, j, x => sdo g sh m (j + 1) (sd1 g sh j x)
def oSend (g : G1) (sh : SHT) (rl : RLT) (sc : SCT) : SDT := sdo g sh rl.1 0 (rl, 0, sc.1)
theorem RLok.snd {g : G1} {sh : SHT} {rl : RLT} (h : RLok g.1.1 rl) (hg : WFR g.1) (j : Nat) : RLok g.1.1 (rlS g sh rl j) := by
  refine ⟨h.1, fun i hi => ?_⟩
  have hi : i < rl.1 := hi
  by_cases hij : i = j
  · subst hij
    rw [rlS_s]
    exact ⟨(h.2 i hi).1, cut_le _, fun k hk => gM_row hg _ hk⟩
  · rw [rlS_n _ _ _ hij]; exact h.2 i hi
theorem sd1_ok {g : G1} {sh : SHT} {x : SDT} (h : RLok g.1.1 x.1) (hg : WFR g.1) (j : Nat) : RLok g.1.1 (sd1 g sh j x).1 ∧ (sd1 g sh j x).1.1 = x.1.1 := by
  unfold sd1
  split
  · exact ⟨h, rfl⟩
  · exact ⟨h.snd hg j, rfl⟩
theorem sdo_ok {g : G1} {sh : SHT} (hg : WFR g.1) : ∀ m j (x : SDT), RLok g.1.1 x.1 → RLok g.1.1 (sdo g sh m j x).1 ∧ (sdo g sh m j x).1.1 = x.1.1
  | 0, _, _, h => ⟨h, rfl⟩
  | m + 1, j, x, h => by
    have h1 := sd1_ok (sh := sh) h hg j
    have h2 := sdo_ok (sh := sh) hg m (j + 1) _ h1.1
    exact ⟨h2.1, h2.2.trans h1.2⟩
section SEND8
variable {σ σ' σ0 : Hp} {c : Nat → Nat} {s : Nat} {g : G1} {t : G2} {sh : SHT} {rl : RLT} {sc : SCT}
theorem RD8.snd (h : RD8 σ c rl) (hL : L8 σ c rl.1 s) {j : Nat} (hj : j < rl.1) (hA : Ag (fun q => q = c (27 + 3 * j) ∨ q = c (28 + 3 * j)) (fun _ => False) σ σ') (hP : PP σ' (c (27 + 3 * j)) (c (28 + 3 * j)) (cut (gR g sh rl j).1) (mk1 (gR g sh rl j).1)) : RD8 σ' c (rlS g sh rl j) := fun i hi => by
  have hi : i < rl.1 := hi
  have ki := k8_n2 hi
  have kj := k8_n2 hj
  obtain ⟨h1, h2, h3⟩ := h i hi
  have n : ∀ u, k8 rl.1 u ≠ none → u ≠ 27 + 3 * j → u ≠ 28 + 3 * j → ∀ k, gi σ' (c u) k = gi σ (c u) k := fun u hu h1 h2 k => by
    refine ((hA (c u) (hL.some hu)).2.1 (fun z => ?_) k).1
    rcases z with z | z
    · exact h1 (hL.2.1 _ _ hu kj.2.1 z)
    · exact h2 (hL.2.1 _ _ hu kj.2.2 z)
  by_cases hij : i = j
  · subst hij
    rw [rlS_s]
    exact ⟨by rw [n _ ki.1 (by omega) (by omega)]; exact h1, hP.2.2.2.1, hP.2.2.2.2.2⟩
  · rw [rlS_n _ _ _ hij]
    exact ⟨by rw [n _ ki.1 (by omega) (by omega)]; exact h1, by rw [n _ ki.2.1 (by omega) (by omega)]; exact h2, fun k hk => by rw [n _ ki.2.2 (by omega) (by omega)]; exact h3 k hk⟩
theorem T8.cnt (h : T8 σ c s g t sh rl sc) (v : Int32) : T8 (si σ (c 0) 6 v) c s g t sh rl (v, sc.2.1, sc.2.2) := by
  refine h.obj (Ag.rf.wi _ (Or.inl ⟨0, by decide, rfl⟩)) ?_
  obtain ⟨h1, h2, h3, h4⟩ := h.2.2.2.2.2.2
  exact ⟨by rw [gi_sk (by decide)]; exact h1, gi_ss, by rw [gi_sk (by decide)]; exact h3, by rw [gi_sk (by decide)]; exact h4⟩
theorem T8_send {post : Int32 → Hp → Prop} (h : T8 σ c s g t sh rl sc) (hg : WFR g.1) (hsh : SHok sh) (hn : RLok g.1.1 rl) (hp : ∀ σ', T8 σ' c s g t sh (oSend g sh rl sc).1 ((oSend g sh rl sc).2.2, sc.2.1, sc.2.2) → Ag (S8 c rl.1) (S8 c rl.1) σ σ' → post (oSend g sh rl sc).2.1 σ') : P_X8_send (c 0) σ post := by
  unfold P_X8_send
  intro I hI
  have h10 := hn.1
  have idle : ∀ m v (x : SDT) σ', v + m = 10 → rl.1 ≤ v → x.1.1 = rl.1 → T8 σ' c s g t sh x.1 (x.2.2, sc.2.1, sc.2.2) → post x.2.1 σ' → I x.2.1 (nI v) σ' := by
    intro m
    induction m with
    | zero =>
      intro v x σ' hv hr hx h' hp
      obtain rfl : v = 10 := by omega
      exact hI _ _ _ ⟨h'.1.k 0 (by decide) rfl, c 7, h'.1.r 0 3 7 (by decide), 10, h'.1.k 7 (by decide) rfl, fun _ => hp, fun z => absurd (by decide) z⟩
    | succ m ih =>
      intro v x σ' hv hr hx h' hp
      have hnone := h'.1.2.2.2.2.2.1 v (by omega) (by omega)
      refine hI _ _ _ ⟨h'.1.k 0 (by decide) rfl, c 7, h'.1.r 0 3 7 (by decide), 10, h'.1.k 7 (by decide) rfl, fun z => ?_, fun _ => ⟨vinN (by omega) (by decide), fun _ => ?_, fun b hb => ?_⟩⟩
      · rw [ile, ofn, nIi (by omega), nIi (by omega)] at z; omega
      · rw [nI_1]; exact ih (v + 1) x σ' (by omega) (by omega) hx h' hp
      · rw [clN (by omega), hnone] at hb; cases hb
  have key : ∀ m v (x : SDT) σ', v + m = rl.1 → x.1.1 = rl.1 → RLok g.1.1 x.1 → T8 σ' c s g t sh x.1 (x.2.2, sc.2.1, sc.2.2) → Ag (S8 c rl.1) (S8 c rl.1) σ σ' → (∀ σ2, T8 σ2 c s g t sh (sdo g sh m v x).1 ((sdo g sh m v x).2.2, sc.2.1, sc.2.2) → Ag (S8 c rl.1) (S8 c rl.1) σ σ2 → post (sdo g sh m v x).2.1 σ2) → I x.2.1 (nI v) σ' := by
    intro m
    induction m with
    | zero =>
      intro v x σ' hv hx hnx h' hA hp
      exact idle (10 - v) v x σ' (by omega) (by omega) hx h' (hp σ' h' hA)
    | succ m ih =>
      intro v x σ' hv hx hnx h' hA hp
      have hvr : v < x.1.1 := by omega
      have hk := k8_rd hvr
      obtain ⟨r1, r2, r3⟩ := h'.1.2.2.2.2.1 v hvr
      refine hI _ _ _ ⟨h'.1.k 0 (by decide) rfl, c 7, h'.1.r 0 3 7 (by decide), 10, h'.1.k 7 (by decide) rfl, fun z => ?_, fun _ => ⟨vinN (by omega) (by decide), fun z => ?_, fun b hb => ?_⟩⟩
      · rw [ile, ofn, nIi (by omega), nIi (by omega)] at z; omega
      · rw [clN (by omega), r1] at z; cases z
      rw [clN (by omega), r1] at hb
      cases hb
      have hgo := ih (v + 1) (sd1 g sh v x)
      refine ⟨h'.1.1 _ _ hk.1, c 1, h'.1.r 0 0 1 (by decide), c s, h'.1.2.2.2.1.2.1, c 22, h'.1.r 0 11 22 (by decide), h'.1.k 22 (by decide) rfl, ?_⟩
      rw [(h'.2.2.2.2.2.1 v hvr).1, nI_1]
      have hA' : Ag (S8 c x.1.1) (S8 c x.1.1) σ σ' := by rw [hx]; exact hA
      refine h'.gather (Or.inl rfl) hA' hg hsh (fun σ1 h1 hA1 _ hP => ⟨h1.1.k 0 (by decide) rfl, h1.1.1 _ _ hk.1, _, (h1.1.2.2.2.2.1 v hvr).2.1, c 22, h1.1.r 0 11 22 (by decide), h1.1.k 22 (by decide) rfl, X1_hasMarksOf hP (h1.pap hnx hvr) (fun y => ?_) (fun y => ?_)⟩)
      · have hs1 : sd1 g sh v x = x := by unfold sd1; rw [if_pos y]
        rw [hs1] at hgo
        have hp : ∀ σ2, T8 σ2 c s g t sh (sdo g sh m (v + 1) (sd1 g sh v x)).1 ((sdo g sh m (v + 1) (sd1 g sh v x)).2.2, sc.2.1, sc.2.2) → Ag (S8 c rl.1) (S8 c rl.1) σ σ2 → post (sdo g sh m (v + 1) (sd1 g sh v x)).2.1 σ2 := hp
        rw [hs1] at hp
        rw [hx] at hA1
        exact ⟨fun _ => hgo σ1 (by omega) hx hnx h1 hA1 hp, fun z => absurd z (by decide)⟩
      · have hs1 : sd1 g sh v x = (rlS g sh x.1 v, x.2.1 ||| ((1 : Int32) <<< (nI v &&& 31)), x.2.2 + 1) := by unfold sd1; rw [if_neg y]
        have hp : ∀ σ2, T8 σ2 c s g t sh (sdo g sh m (v + 1) (sd1 g sh v x)).1 ((sdo g sh m (v + 1) (sd1 g sh v x)).2.2, sc.2.1, sc.2.2) → Ag (S8 c rl.1) (S8 c rl.1) σ σ2 → post (sdo g sh m (v + 1) (sd1 g sh v x)).2.1 σ2 := hp
        rw [hs1] at hgo hp
        have kk := k8_n2 hvr
        have hP1 := h1.pap hnx hvr
        have d : ∀ u w, k8 x.1.1 u ≠ none → k8 x.1.1 w ≠ none → u ≠ w → c u ≠ c w := fun u w hu hw huw z => huw (h1.1.2.1 _ _ hu hw z)
        refine ⟨fun z => absurd rfl z, fun _ => ⟨h1.1.1 _ _ hk.1, h1.1.k 0 (by decide) rfl, c 22, h1.1.r 0 11 22 (by decide), _, (h1.1.2.2.2.2.1 v hvr).2.1, hP1.1, X1_takeFrom hP1 hP ⟨d _ _ kk.2.1 (k8_n (by decide)) (by omega), d _ _ kk.2.2 (k8_n (by decide)) (by omega), d _ _ kk.2.1 kk.2.2 (by omega), d _ _ kk.2.1 (k8_n (by decide)) (by omega), d _ _ (k8_n (by decide)) kk.2.2 (by omega)⟩ (fun σ2 hA2 hP2 => ?_)⟩⟩
        have h2 := h1.rds hA2 (fun b hb => by
          rcases hb with hb | hb
          · exact ⟨27 + 3 * v, by omega, kk.2.1, hb⟩
          · exact ⟨28 + 3 * v, by omega, kk.2.2, hb⟩) (rl' := rlS g sh x.1 v) rfl (h1.2.2.2.2.2.1.snd h1.1 hvr hA2 hP2)
        refine ⟨h2.1.k 0 (by decide) rfl, ?_⟩
        have h6 : gi σ2 (c 0) 6 = x.2.2 := h2.2.2.2.2.2.2.2.1
        rw [h6]
        rw [hx] at hA1
        have hA2' : Ag (S8 c rl.1) (S8 c rl.1) σ1 σ2 := hA2.mono (fun b hb => by
          rw [← hx]
          rcases hb with hb | hb
          · exact ⟨27 + 3 * v, kk.2.1, hb⟩
          · exact ⟨28 + 3 * v, kk.2.2, hb⟩) (fun _ z => z.elim)
        exact hgo _ (by omega) hx (hnx.snd hg v) (h2.cnt _) ((hA1.tr hA2').wi _ (Or.inl ⟨0, k8_n (by decide), rfl⟩)) hp
  exact key rl.1 0 (rl, 0, sc.1) σ (by omega) rfl hn h Ag.rf hp
end SEND8
