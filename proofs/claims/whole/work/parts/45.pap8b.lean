section PAPER8B
variable {σ σ' σ0 : Hp} {c : Nat → Nat} {rc s ia ib : Nat} {sh : SHT} {ρ : RM} {st st' : PST}
theorem nI_0iff {r : Nat} (hr : r < 100) : nI r = (0 : Int32) ↔ r = 0 := by
  rw [ieq, nIi (by omega), show (0 : Int32).toInt = 0 by decide]; omega
theorem N8.refBy {row q r : Nat} {post : Int32 → Hp → Prop} (hw : RW σ q row (ρ.2 row)) (hr : r < 100) (hp : post (rf (ρ.2 row) r) σ) : P_X4_referenceBy q (nI r) σ post := by
  refine X4_referenceBy hw ?_
  unfold rf at hp
  by_cases h0 : r = 0
  · rw [if_pos h0] at hp
    rw [if_pos ((nI_0iff hr).mpr h0)]; exact hp
  · rw [if_neg h0] at hp
    rw [if_neg (fun z => h0 ((nI_0iff hr).mp z))]; exact hp
/-- a part in the class: what it must do -/
def AP (σ0 : Hp) (c : Nat → Nat) (rc s ia ib : Nat) (sh : SHT) (ρ : RM) (lv : Nat → Nat) (d : Nat) (G : Nat → Nat → Nat → Int32 → Nat → Int32 → Hp → (Hp → Prop) → Prop) : Prop :=
  ∀ p row q σ st post, lv p + d = 7 → p < sh.1 → row < ρ.1 → gr σ0 (c (ia + 1)) row = some q → N8 σ0 c rc s ia ib sh ρ σ st → (∀ σ', N8 σ0 c rc s ia ib sh ρ σ' (gP ρ sh d p row st) → post σ') → G (c ib) (c s) (c ia) (nI p) q (nI (lv p)) σ post
theorem N8_up {G : Nat → Nat → Nat → Int32 → Nat → Int32 → Hp → (Hp → Prop) → Prop} {lv : Nat → Nat} {d i row q : Nat} {post : Hp → Prop} (hG : AP σ0 c rc s ia ib sh ρ lv d G) (hi : i < sh.2.2.1) (hk : (sh.2.2.2 i).2.1 = 1) (hr1 : (sh.2.2.2 i).2.2.1 ≤ 1) (hp1 : (sh.2.2.2 i).2.2.2 < sh.1) (hl : lv (sh.2.2.2 i).2.2.2 + d = 7) {l : Nat} (hl2 : lv (sh.2.2.2 i).2.2.2 = l + 1) (hr : row < ρ.1) (hq : gr σ0 (c (ia + 1)) row = some q) (h : N8 σ0 c rc s ia ib sh ρ σ st)
    (hp : ∀ σ', N8 σ0 c rc s ia ib sh ρ σ' (gI (gP ρ sh d) ρ sh row i st) → post σ') : O_X1_addUp G (c ib) (c s) (c ia) (nI i) q (nI l) σ post := by
  unfold O_X1_addUp
  have hL := h.1
  have hw := h.row hr hq
  unfold gI at hp
  rw [if_neg (by omega), if_pos hk] at hp
  have hk0 : (sh.2.2.2 i).2.1 ≠ 0 := by omega
  refine ⟨hL.shk.1, X6_partWithin hL h.2.1 hi hk0 ⟨hL.shk.1, X6_referenceOf hL h.2.1 hi hk0 ⟨hw.1, N8.refBy (ρ := ρ) hw (by omega) ⟨h.2.2.1.1, h.stand (fun q' hs hlt hq' hw' => ⟨fun z => (by cases z), fun b hb => ?_⟩) (fun hs => ⟨fun _ => ?_, fun b z => by cases z⟩)⟩⟩⟩⟩
  · cases hb
    refine ⟨hw'.1, hL.shk.1, X6_tableOf hL h.2.1 hp1 ⟨fun z => ?_, fun z => ⟨h.2.2.2.1.1.1, ?_⟩⟩⟩
    · rw [hw'.2.2.1] at z
      rw [if_neg (fun y => z y.2)] at hp
      exact hp _ h
    · rw [hw'.2.2.1] at z
      rw [if_pos ⟨hs, z⟩] at hp
      rw [nI_1, ← hl2]
      exact hG _ _ _ _ _ _ hl hp1 hlt hq' h hp
  · rw [if_neg (fun y => hs y.1)] at hp
    exact hp _ h
theorem N8_down {G : Nat → Nat → Nat → Int32 → Nat → Int32 → Hp → (Hp → Prop) → Prop} {lv : Nat → Nat} {d i row q : Nat} {post : Hp → Prop} (hG : AP σ0 c rc s ia ib sh ρ lv d G) (hi : i < sh.2.2.1) (hk : (sh.2.2.2 i).2.1 = 2) (hr1 : (sh.2.2.2 i).2.2.1 ≤ 1) (hp1 : (sh.2.2.2 i).2.2.2 < sh.1) (hl : lv (sh.2.2.2 i).2.2.2 + d = 7) {l : Nat} (hl2 : lv (sh.2.2.2 i).2.2.2 = l + 1) (hr : row < ρ.1) (hq : gr σ0 (c (ia + 1)) row = some q) (h : N8 σ0 c rc s ia ib sh ρ σ st)
    (hp : ∀ σ', N8 σ0 c rc s ia ib sh ρ σ' (gI (gP ρ sh d) ρ sh row i st) → post σ') : O_X1_addDown G (c ib) (c s) (c ia) (nI i) q (nI l) σ post := by
  unfold O_X1_addDown
  have hL := h.1
  have h60 := h.2.2.1.2.2.2.2.1
  unfold gI at hp
  rw [if_neg (by omega), if_neg (by omega)] at hp
  have hk0 : (sh.2.2.2 i).2.1 ≠ 0 := by omega
  refine ⟨hL.shk.1, X6_partWithin hL h.2.1 hi hk0 ⟨hL.shk.1, X6_referenceOf hL h.2.1 hi hk0 ⟨h.2.2.1.1, h.2.2.1.1, ?_⟩⟩⟩
  rw [h.2.2.1.2.2.2.1]
  intro I hI
  have key : ∀ m v st σ, v + m = ρ.1 → N8 σ0 c rc s ia ib sh ρ σ st → (∀ σ', N8 σ0 c rc s ia ib sh ρ σ' (fo (dnok ρ (sh.2.1 (sh.2.2.2 i).2.2.2) (sh.2.2.2 i).2.2.1 row) (gP ρ sh d (sh.2.2.2 i).2.2.2) m v st) → post σ') → I (nI v) σ := by
    intro m
    induction m with
    | zero =>
      intro v st σ hv hN hp
      obtain rfl : v = ρ.1 := by omega
      exact hI _ _ ⟨fun _ => hp _ hN, fun z => absurd (nI_le (Nat.le_refl _) (by omega)) z⟩
    | succ m ih =>
      intro v st σ hv hN hp
      have hvt : (nI v).toInt = (v : Int) := nIi (by omega)
      have hvc : (nI v).toNatClampNeg = v := clN (by omega)
      refine hI _ _ ⟨fun z => absurd z (nI_ge (by omega) (by omega)), fun _ => ⟨hN.2.2.2.1.1.1, hN.ifFull (fun hf => ⟨fun z => absurd rfl z, fun _ => ⟨hN.2.2.1.1, ?_⟩⟩) (fun hf => ⟨fun _ => hp _ (hN.full hf (fo_pre (gP_pre ρ sh d _) _ _ _)), fun z => absurd z (by decide)⟩)⟩⟩
      have skip : ¬ (upok ρ (sh.2.1 (sh.2.2.2 i).2.2.2) (nI v) ∧ rf (ρ.2 v) (sh.2.2.2 i).2.2.1 = nI row) → I (nI v + 1) σ := fun hn => by
        rw [nI_1]
        refine ih (v + 1) st σ (by omega) hN (fun σ' hN' => hp σ' ?_)
        unfold fo
        rw [if_neg (by unfold dnok; rw [decide_eq_true_eq]; exact hn)]
        exact hN'
      refine hN.stand (fun q' hs hlt hq' hw' => ⟨fun z => (by cases z), fun b hb => ?_⟩) (fun hs => ⟨fun _ => skip (fun z => hs z.1.1), fun b z => by cases z⟩)
      cases hb
      rw [hvc] at hq' hw' hlt
      refine ⟨hw'.1, hN.1.shk.1, X6_tableOf hN.1 hN.2.1 hp1 ⟨fun z => skip (fun y => z ?_), fun z => ⟨hw'.1, N8.refBy (ρ := ρ) hw' (by omega) ⟨(hN.row hr hq).1, fun y => skip (fun w => y ?_), fun y => ⟨hN.2.2.2.1.1.1, ?_⟩⟩⟩⟩⟩
      · rw [hw'.2.2.1]
        have := y.1.2
        rwa [hvc] at this
      · rw [(hN.row hr hq).2.1]; exact w.2
      · rw [hw'.2.2.1] at z
        rw [(hN.row hr hq).2.1] at y
        rw [nI_1, nI_1, ← hl2]
        refine hG _ _ _ _ _ _ hl hp1 hlt hq' hN (fun σ' hN' => ih (v + 1) _ σ' (by omega) hN' (fun σ2 hN2 => hp σ2 ?_))
        unfold fo
        rw [if_pos (by unfold dnok; rw [decide_eq_true_eq]; exact ⟨⟨hs, by rw [hvc]; exact z⟩, y⟩)]
        exact hN2
  exact key ρ.1 0 st σ (by omega) h hp
/-- shapes: what is asked of the items, with the levels lv -/
def SHlv (sh : SHT) (lv : Nat → Nat) : Prop := ∀ i, i < sh.2.2.1 → (sh.2.2.2 i).1 < sh.1 ∧ (sh.2.2.2 i).2.1 ≤ 2 ∧ (sh.2.2.2 i).2.2.1 ≤ 1 ∧ lv (sh.2.2.2 i).1 ≤ 5 ∧ ((sh.2.2.2 i).2.1 ≠ 0 → (sh.2.2.2 i).1 < (sh.2.2.2 i).2.2.2 ∧ (sh.2.2.2 i).2.2.2 < sh.1 ∧ lv (sh.2.2.2 i).2.2.2 = lv (sh.2.2.2 i).1 + 1)
theorem N8_part {lv : Nat → Nat} (hix : IX ia ib) (hlv : SHlv sh lv) : ∀ d D, d < D → AP σ0 c rc s ia ib sh ρ lv d (PD_X1_addPart D) := by
  intro d
  induction d with
  | zero =>
    intro D hD p row q σ st post hl hp1 hr hq h hp
    obtain ⟨D, rfl⟩ : ∃ D', D = D' + 1 := ⟨D - 1, by omega⟩
    have h7 : lv p = 7 := by omega
    unfold PD_X1_addPart O_X1_addPart
    rw [h7]
    exact ⟨fun _ => hp _ h, fun z => absurd (by decide) z⟩
  | succ d ih =>
    intro D hD p row q σ st post hl hp1 hr hq h hp
    obtain ⟨D, rfl⟩ : ∃ D', D = D' + 1 := ⟨D - 1, by omega⟩
    have hG := ih D (by omega)
    have h60 := h.2.2.1.2.2.2.2.1
    have h100 := h.2.1.2.2.2.1
    unfold PD_X1_addPart O_X1_addPart
    refine ⟨fun z => ?_, fun _ => ⟨h.2.2.2.1.1.1, h.ifFull (fun hf => ⟨fun _ => ?_, fun z => absurd rfl z⟩) (fun hf => ⟨fun z => absurd z (by decide), fun _ => hp _ (h.full hf (gP_pre _ _ _ _ _ _))⟩)⟩⟩
    · rw [ilt, nIi (by omega), show (6 : Int32).toInt = 6 by decide] at z; omega
    have hw := h.row hr hq
    have hB := h.2.2.2.1.2 hf
    rw [hw.2.1]
    refine ⟨hw.1, h.2.2.2.1.1.1, fun z => ?_, fun z => ?_⟩
    rotate_left
    · rw [hB.get (by omega)] at z
      refine h.add hix (w := -1) (fun σ' hN => hp σ' ?_)
      unfold gP
      rw [if_pos (by simpa using z)]
      exact hN
    rw [hB.get (by omega)] at z
    have h1 : N8 σ0 c rc s ia ib sh ρ (sl σ (c ib) 2 (gl σ (c ib) 2 ||| ((1 : Int64) <<< (Int32.toInt64 (nI row) &&& 63)))) (st.1, fun r => if r = row then true else st.2 r) := by
      refine h.wr hix (Ag.rf.wl _ (Or.inl ⟨ib, by simp, rfl⟩)) ⟨h.2.2.2.1.1, fun _ => ?_⟩
      rw [gl_ss]
      exact hB.put (by omega)
    unfold gP at hp
    rw [if_neg (by rw [z]; exact fun y => by cases y)] at hp
    refine h1.add hix (w := -1) (fun σ2 h2 => ⟨h2.1.shk.1, h2.1.shk.1, ?_⟩)
    rw [h2.2.1.2.1]
    intro I hI
    have key : ∀ m i st σ, i + m = sh.2.2.1 → N8 σ0 c rc s ia ib sh ρ σ st → (∀ σ', N8 σ0 c rc s ia ib sh ρ σ' (pad (fo (gO sh p) (gI (gP ρ sh d) ρ sh row) m i st) 30000 (-1)) → post σ') → I (nI i) σ := by
      intro m
      induction m with
      | zero =>
        intro i st σ hv hN hp
        obtain rfl : i = sh.2.2.1 := by omega
        exact hI _ _ ⟨fun _ => ⟨hN.2.2.2.1.1.1, hN.add hix hp⟩, fun z => absurd (nI_le (Nat.le_refl _) (by omega)) z⟩
      | succ m ih2 =>
        intro i st σ hv hN hp
        have hi : i < sh.2.2.1 := by omega
        obtain ⟨w1, w2, w3, w4, w5⟩ := hlv i hi
        have h20 := hN.2.1.2.2.1
        refine hI _ _ ⟨fun z => absurd z (nI_ge (by omega) (by omega)), fun _ => ⟨hN.1.shk.1, X6_ownerOf hN.1 hN.2.1 hi ⟨fun y => ?_, fun y => ⟨hN.1.shk.1, X6_kindOf hN.1 hN.2.1 hi ?_⟩⟩⟩⟩
        · refine ⟨fun _ => ⟨fun _ => ⟨fun _ => ?_, fun z => absurd z (by decide)⟩, fun z => absurd z (by decide)⟩, fun z => absurd z (by decide)⟩
          rw [nI_1]
          refine ih2 (i + 1) st σ (by omega) hN (fun σ' hN' => hp σ' ?_)
          unfold fo
          rw [if_neg (by unfold gO; rw [decide_eq_true_eq]; exact fun w => y (by rw [w]))]
          exact hN'
        · have y : (sh.2.2.2 i).1 = p := by
            rw [ieq, nIi (by omega), nIi (by omega)] at y; omega
          have hgo : gO sh p i = true := by unfold gO; rw [decide_eq_true_eq]; exact y
          have go : ∀ σ', N8 σ0 c rc s ia ib sh ρ σ' (gI (gP ρ sh d) ρ sh row i st) → I (nI i + 1) σ' := fun σ' hN' => by
            rw [nI_1]
            refine ih2 (i + 1) _ σ' (by omega) hN' (fun σ3 hN3 => hp σ3 ?_)
            unfold fo
            rw [if_pos hgo]; exact hN3
          have k1 : (nI (sh.2.2.2 i).2.1).toInt = ((sh.2.2.2 i).2.1 : Int) := nIi (by omega)
          refine ⟨fun z0 => ⟨fun z1 => ⟨fun z2 => ?_, fun z2 => ⟨hN.2.2.2.1.1.1, ?_⟩⟩, fun z1 => ⟨hN.2.2.2.1.1.1, ?_⟩⟩, fun z0 => ⟨(hN.row hr hq).1, hN.2.2.2.1.1.1, ?_⟩⟩
          · rw [ieq, k1] at z0 z1 z2
            have e0 : (0 : Int32).toInt = 0 := by decide
            have e1 : (1 : Int32).toInt = 1 := by decide
            have e2 : (2 : Int32).toInt = 2 := by decide
            omega
          · rw [ieq, k1, show (2 : Int32).toInt = 2 by decide] at z2
            have hk : (sh.2.2.2 i).2.1 = 2 := by omega
            obtain ⟨v1, v2, v3⟩ := w5 (by omega)
            rw [y] at v3
            exact N8_down hG hi hk w3 v2 (by omega) v3 hr hq hN go
          · rw [ieq, k1, show (1 : Int32).toInt = 1 by decide] at z1
            have hk : (sh.2.2.2 i).2.1 = 1 := by omega
            obtain ⟨v1, v2, v3⟩ := w5 (by omega)
            rw [y] at v3
            exact N8_up hG hi hk w3 v2 (by omega) v3 hr hq hN go
          · rw [ieq, k1, show (0 : Int32).toInt = 0 by decide] at z0
            rw [(hN.row hr hq).2.2.2.1]
            refine hN.add hix (w := nI row) (fun σ' hN' => go σ' ?_)
            unfold gI
            rw [if_pos (by omega)]; exact hN'
    exact key sh.2.2.1 0 _ σ2 (by omega) h2 hp
end PAPER8B
