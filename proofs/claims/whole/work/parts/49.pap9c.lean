section PAPER9C
variable {σ σ' σ0 : Hp} {a : Nat} {e : Nat → Nat} {g : G1} {t : G2} {sh : SHT} {rl : RLT} {sc : SCT} {st st' : PST} {k : Nat} {fr : FRT} {post I : Hp → Prop}
abbrev nxI (sh : SHT) (i : Nat) : Int32 := nxt sh.2.2.2 (sh.2.2.2 i).1 (sh.2.2.1 - (i + 1)) (i + 1)
theorem make_end (hI : ∀ τ, F_X9_make_68 a post I τ → I τ) {row : Nat} {at1 : Int32} (hk : k < 8) (h : N9 σ0 a e g t sh rl sc σ st (k + 1) (upf fr k (row, -1, at1))) (hp : ∀ σ', N9 σ0 a e g t sh rl sc σ' (pad st 30000 (-1)) k fr → I σ') : I σ := by
  have hL := h.1.1
  obtain ⟨p1, p2⟩ := h.2.2.2.2.2
  have p3 := p2 k (by omega)
  rw [upf_s] at p3
  apply hI
  unfold F_X9_make_68
  rw [p1, nI_pred, clN (show k < 2147483648 by omega)]
  refine ⟨hL.1, fun z => absurd z (nI_nle (by omega) (by omega)), fun _ => ⟨e 45, hL.r 45 rfl, 8, hL.k 45 rfl, ?_⟩⟩
  rw [p3.2.1]
  refine ⟨vinN hk (by decide), fun z => absurd rfl z, fun _ => h.write (v := 30000) (w := -1) (fun σ2 h2 => ?_)⟩
  have hL2 := h2.1.1
  obtain ⟨q1, q2, q3⟩ := h2.2.2.2.2.1
  obtain ⟨u1, u2⟩ := h2.2.2.2.2.2
  rw [u1, nI_pred]
  refine ⟨hL2.1, hp _ (h2.wa (by decide) ⟨by rw [gi_sk (by decide)]; exact q1, fun j hj => by rw [hL2.oa (by decide), hL2.oa (by decide)]; exact q2 j hj, fun r hr => by rw [hL2.oa (by decide)]; exact q3 r hr⟩ ⟨gi_ss, fun j hj => ?_⟩)⟩
  rw [hL2.oa (by decide), hL2.oa (by decide), hL2.oa (by decide)]
  have := u2 j (by omega)
  rwa [upf_n (show j ≠ k by omega)] at this
theorem nI_nm {i : Nat} (h : i < 1000) : ¬ nI i = (-1 : Int32) := by
  rw [ieq, nIi (by omega), show (-1 : Int32).toInt = -1 by decide]; omega
theorem nI_k {i j : Nat} (h : i < 1000) (hj : j < 1000) : nI i = nI j ↔ i = j := by
  rw [ieq, nIi (by omega), nIi (by omega)]; omega
theorem make_val (hI : ∀ τ, F_X9_make_68 a post I τ → I τ) {row i : Nat} {at1 : Int32} (hk : k < 8) (hi : i < sh.2.2.1) (h100 : sh.2.2.1 ≤ 100) (hr : row < g.1.1) (hk0 : (sh.2.2.2 i).2.1 = 0) (h : N9 σ0 a e g t sh rl sc σ st (k + 1) (upf fr k (row, nI i, at1))) (hp : ∀ σ', N9 σ0 a e g t sh rl sc σ' (pad st (g.1.2 row).2.1 (nI row)) (k + 1) (upf fr k (row, nxI sh i, at1)) → I σ') : I σ := by
  have hL := h.1.1
  have h60 : g.1.1 ≤ 60 := h.1.2.1.2.1
  obtain ⟨p1, p2⟩ := h.2.2.2.2.2
  have p3 := p2 k (by omega)
  rw [upf_s] at p3
  have i1 := (h.1.2.2.2.2.1.2.2 i hi).1
  have c2 := (h.1.2.1.2.2 row hr).2.1
  have hck : (nI k).toNatClampNeg = k := clN (by omega)
  have hci : (nI i).toNatClampNeg = i := clN (by omega)
  have hcr : (nI row).toNatClampNeg = row := clN (by omega)
  have hvk : vp_in (nI k) 8 := vinN hk (by decide)
  have hvi : vp_in (nI i) 200 := vinN (by omega) (by decide)
  apply hI
  unfold F_X9_make_68
  rw [p1, nI_pred, hck]
  refine ⟨hL.1, fun z => absurd z (nI_nle (by omega) (by omega)), fun _ => ⟨e 45, hL.r 45 rfl, 8, hL.k 45 rfl, ?_⟩⟩
  rw [p3.2.1, hci]
  refine ⟨hvk, fun _ => ⟨e 17, hL.r 17 rfl, 200, hL.k 17 rfl, hvi, fun z => ?_, fun z => ⟨e 44, hL.r 44 rfl, 8, hL.k 44 rfl, hvk, e 11, hL.r 11 rfl, 60, hL.k 11 rfl, ?_⟩⟩, fun z => absurd z (nI_nm (by omega))⟩
  · rw [i1, hk0] at z; exact absurd rfl z
  rw [p3.1, hcr, c2]
  refine ⟨vinN (by omega) (by decide), hvk, h.write (fun σ2 h2 => ⟨h2.1.1.1, e 20, h2.1.1.r 20 rfl, 200, h2.1.1.k 20 rfl, hvi, e 45, h2.1.1.r 45 rfl, 8, h2.1.1.k 45 rfl, hvk, ?_⟩)⟩
  rw [(h2.1.2.2.2.2.1.2.2 i hi).2.2]
  exact hp _ h2.w45
theorem make_ref (hI : ∀ τ, F_X9_make_68 a post I τ → I τ) {row i : Nat} {at1 res : Int32} (hk : k < 8) (hi : i < sh.2.2.1) (h100 : sh.2.2.1 ≤ 100) (hr : row < g.1.1) (hk0 : (sh.2.2.2 i).2.1 ≠ 0) (hk2 : (sh.2.2.2 i).2.1 ≤ 2) (h : N9 σ0 a e g t sh rl sc σ st (k + 1) (upf fr k (row, nI i, at1)))
    (hn : ∀ P : Int32 → Hp → Prop, P res σ → P_X9_nextRow a (nI i) (nI row) at1 σ P)
    (h0 : res = -1 → ∀ σ', N9 σ0 a e g t sh rl sc σ' st (k + 1) (upf fr k (row, nxI sh i, 0)) → I σ')
    (h1 : ¬ res = -1 → (sh.2.2.2 i).2.1 = 1 → ∀ σ', N9 σ0 a e g t sh rl sc σ' st (k + 1) (upf fr k (row, nI i, 1)) → P_X9_begin a (nI (sh.2.2.2 i).2.2.2) res σ' I)
    (h2 : ¬ res = -1 → (sh.2.2.2 i).2.1 = 2 → ∀ σ', N9 σ0 a e g t sh rl sc σ' st (k + 1) (upf fr k (row, nI i, res + 1)) → P_X9_begin a (nI (sh.2.2.2 i).2.2.2) res σ' I) : I σ := by
  have hL := h.1.1
  have h60 : g.1.1 ≤ 60 := h.1.2.1.2.1
  obtain ⟨p1, p2⟩ := h.2.2.2.2.2
  have p3 := p2 k (by omega)
  rw [upf_s] at p3
  obtain ⟨i1, i2, i3⟩ := h.1.2.2.2.2.1.2.2 i hi
  have hck : (nI k).toNatClampNeg = k := clN (by omega)
  have hci : (nI i).toNatClampNeg = i := clN (by omega)
  have hvk : vp_in (nI k) 8 := vinN hk (by decide)
  have hvi : vp_in (nI i) 200 := vinN (by omega) (by decide)
  apply hI
  unfold F_X9_make_68
  rw [p1, nI_pred, hck]
  refine ⟨hL.1, fun z => absurd z (nI_nle (by omega) (by omega)), fun _ => ⟨e 45, hL.r 45 rfl, 8, hL.k 45 rfl, ?_⟩⟩
  rw [p3.2.1, hci]
  refine ⟨hvk, fun _ => ⟨e 17, hL.r 17 rfl, 200, hL.k 17 rfl, hvi, fun z => ⟨e 44, hL.r 44 rfl, 8, hL.k 44 rfl, hvk, e 46, hL.r 46 rfl, 8, hL.k 46 rfl, hvk, ?_⟩, fun z => ?_⟩, fun z => absurd z (nI_nm (by omega))⟩
  rotate_left
  · rw [i1, nI_0iff (by omega)] at z; exact absurd z hk0
  rw [p3.1, p3.2.2]
  refine hn _ ⟨fun z => ⟨hL.1, e 17, hL.r 17 rfl, 200, hL.k 17 rfl, hvi, fun y => ⟨e 46, hL.r 46 rfl, 8, hL.k 46 rfl, hvk, e 19, hL.r 19 rfl, 200, hL.k 19 rfl, hvi, ?_⟩, fun y => ⟨e 46, hL.r 46 rfl, 8, hL.k 46 rfl, hvk, e 19, hL.r 19 rfl, 200, hL.k 19 rfl, hvi, ?_⟩⟩, fun z => ⟨hL.1, e 20, hL.r 20 rfl, 200, hL.k 20 rfl, hvi, e 45, hL.r 45 rfl, 8, hL.k 45 rfl, hvk, e 46, hL.r 46 rfl, 8, hL.k 46 rfl, hvk, ?_⟩⟩
  · rw [hL.ea (by decide) (by decide) (by decide), (i2 hk0).2]
    rw [i1] at y
    have : (sh.2.2.2 i).2.1 = 2 := by
      have : ¬ (sh.2.2.2 i).2.1 = 1 := fun w => y (by rw [w]; rfl)
      omega
    exact h2 z this _ h.w46
  · rw [hL.ea (by decide) (by decide) (by decide), (i2 hk0).2]
    rw [i1, show (1 : Int32) = nI 1 from rfl, nI_k (by omega) (by decide)] at y
    exact h1 z y _ h.w46
  · rw [i3]
    exact h0 z _ h.w45.w46
theorem make_body {lv : Nat → Nat} (hlv : SHlv sh lv) (hW : WFR g.1) (h100 : sh.2.2.1 ≤ 100) (h20 : sh.1 ≤ 20) (hI : ∀ τ, F_X9_make_68 a post I τ → I τ) {d : Nat} (ih : ∀ d', d' < d → ∀ p row σ st fr, lv p + (d' + 1) = 7 → p < sh.1 → row < g.1.1 → N9 σ0 a e g t sh rl sc σ st (lv p) fr → (∀ σ', N9 σ0 a e g t sh rl sc σ' (gP g.1 sh (d' + 1) p row st) (lv p) fr → I σ') → P_X9_begin a (nI p) (nI row) σ I)
    {p row : Nat} {st : PST} (hl : lv p + (d + 1) = 7) (hp1 : p < sh.1) (hr : row < g.1.1) (hb : ¬ st.2 row = true) {σ' : Hp} (h' : N9 σ0 a e g t sh rl sc σ' (gB st row) (lv p + 1) (upf fr (lv p) (row, nxt sh.2.2.2 p sh.2.2.1 0, 0))) (hp : ∀ σ', N9 σ0 a e g t sh rl sc σ' (gP g.1 sh (d + 1) p row st) (lv p) fr → I σ') : I σ' := by
  have h60 : g.1.1 ≤ 60 := hW.1
  unfold gP at hp
  rw [if_neg hb] at hp
  have key : ∀ m i st σ, i + m = sh.2.2.1 → N9 σ0 a e g t sh rl sc σ st (lv p + 1) (upf fr (lv p) (row, nxt sh.2.2.2 p m i, 0)) → (∀ σ', N9 σ0 a e g t sh rl sc σ' (pad (fo (gO sh p) (gI (gP g.1 sh d) g.1 sh row) m i st) 30000 (-1)) (lv p) fr → I σ') → I σ := by
    intro m
    induction m with
    | zero =>
      intro i st σ hv hN hp
      exact make_end hI (by omega) hN hp
    | succ m ih2 =>
      intro i st σ hv hN hp
      have hi : i < sh.2.2.1 := by omega
      obtain ⟨w1, w2, w3, w4, w5⟩ := hlv i hi
      rw [show nxt sh.2.2.2 p (m + 1) i = if (sh.2.2.2 i).1 = p then nI i else nxt sh.2.2.2 p m (i + 1) from rfl] at hN
      by_cases y : (sh.2.2.2 i).1 = p
      rotate_left
      · rw [if_neg y] at hN
        refine ih2 (i + 1) st σ (by omega) hN (fun σ' hN' => hp σ' ?_)
        unfold fo
        rw [if_neg (by unfold gO; rw [decide_eq_true_eq]; exact y)]
        exact hN'
      rw [if_pos y] at hN
      have hgo : gO sh p i = true := by unfold gO; rw [decide_eq_true_eq]; exact y
      have hnx : nxI sh i = nxt sh.2.2.2 p m (i + 1) := by
        show nxt _ _ (sh.2.2.1 - (i + 1)) (i + 1) = _
        rw [y, show sh.2.2.1 - (i + 1) = m by omega]
      have go : ∀ st', st' = gI (gP g.1 sh d) g.1 sh row i st → ∀ σ', N9 σ0 a e g t sh rl sc σ' st' (lv p + 1) (upf fr (lv p) (row, nxI sh i, 0)) → I σ' := fun st' hst σ' hN' => by
        rw [hnx, hst] at hN'
        refine ih2 (i + 1) _ σ' (by omega) hN' (fun σ3 hN3 => hp σ3 ?_)
        unfold fo
        rw [if_pos hgo]; exact hN3
      rcases (show (sh.2.2.2 i).2.1 = 0 ∨ (sh.2.2.2 i).2.1 = 1 ∨ (sh.2.2.2 i).2.1 = 2 by omega) with hk | hk | hk
      · exact make_val hI (by omega) hi h100 hr hk hN (go _ (by unfold gI; rw [if_pos hk]))
      · obtain ⟨v1, v2, v3⟩ := w5 (by omega)
        rw [y] at v3
        obtain ⟨d', rfl⟩ : ∃ d', d = d' + 1 := ⟨d - 1, by rw [y] at w4; omega⟩
        by_cases hup : upok g.1 (sh.2.1 (sh.2.2.2 i).2.2.2) (rf (g.1.2 row) (sh.2.2.2 i).2.2.1)
        · have hto : rf (g.1.2 row) (sh.2.2.2 i).2.2.1 = nI (rf (g.1.2 row) (sh.2.2.2 i).2.2.1).toNatClampNeg := (nI_cl hup.1.1.1).symm
          have hlt : (rf (g.1.2 row) (sh.2.2.2 i).2.2.1).toNatClampNeg < g.1.1 := by rw [icl]; have := hup.1.1; omega
          refine make_ref hI (res := rf (g.1.2 row) (sh.2.2.2 i).2.2.1) (by omega) hi h100 hr (by omega) w2 hN (fun P hP => hN.1.nextUp hW hi h100 h20 hk w3 v2 hr (fun z => absurd rfl z) (fun _ => by rw [if_pos hup]; exact hP)) (fun z => ?_) (fun _ _ σ' hN' => ?_) (fun _ z => absurd (hk.symm.trans z) (by decide))
          · have := hup.1.1.1
            rw [z] at this
            exact absurd this (by decide)
          · rw [hto]
            rw [← v3] at hN'
            refine ih d' (by omega) _ _ σ' st _ (by omega) v2 hlt hN' (fun σ2 h2 => ?_)
            rw [v3] at h2
            refine make_ref hI (res := -1) (by omega) hi h100 hr (by omega) w2 h2 (fun P hP => h2.1.nextUp hW hi h100 h20 hk w3 v2 hr (fun _ => hP) (fun z => absurd z (by decide))) (fun _ => go _ ?_) (fun z => absurd rfl z) (fun z => absurd rfl z)
            unfold gI
            rw [if_neg (by omega), if_pos hk, if_pos hup]
        · refine make_ref hI (res := -1) (by omega) hi h100 hr (by omega) w2 hN (fun P hP => hN.1.nextUp hW hi h100 h20 hk w3 v2 hr (fun z => absurd rfl z) (fun _ => by rw [if_neg hup]; exact hP)) (fun _ => go _ ?_) (fun z => absurd rfl z) (fun z => absurd rfl z)
          unfold gI
          rw [if_neg (by omega), if_pos hk, if_neg hup]
      · obtain ⟨v1, v2, v3⟩ := w5 (by omega)
        rw [y] at v3
        obtain ⟨d', rfl⟩ : ∃ d', d = d' + 1 := ⟨d - 1, by rw [y] at w4; omega⟩
        have down : ∀ m2 v st σ, v + m2 = g.1.1 → N9 σ0 a e g t sh rl sc σ st (lv p + 1) (upf fr (lv p) (row, nI i, nI v)) → (∀ σ', N9 σ0 a e g t sh rl sc σ' (fo (dnok g.1 (sh.2.1 (sh.2.2.2 i).2.2.2) (sh.2.2.2 i).2.2.1 row) (gP g.1 sh (d' + 1) (sh.2.2.2 i).2.2.2) m2 v st) (lv p + 1) (upf fr (lv p) (row, nxI sh i, 0)) → I σ') → I σ := by
          intro m2
          induction m2 using Nat.strongRecOn with
          | _ m2 ih3 =>
          intro v st σ hv hN hp
          have hnext : ∀ P : Int32 → Hp → Prop, P (fsd (dnok g.1 (sh.2.1 (sh.2.2.2 i).2.2.2) (sh.2.2.2 i).2.2.1 row) m2 v) σ → P_X9_nextRow a (nI i) (nI row) (nI v) σ P := fun P hP => hN.1.nextDn hi h100 h20 hk w3 v2 hr hv hP
          rcases fsd_spec (dnok g.1 (sh.2.1 (sh.2.2.2 i).2.2.2) (sh.2.2.2 i).2.2.1 row) m2 v with ⟨f1, f2⟩ | ⟨v', m', f1, f2, f3, f4, f5⟩
          · rw [f1] at hnext
            rw [f2] at hp
            exact make_ref hI (res := -1) (by omega) hi h100 hr (by omega) w2 hN hnext (fun _ => hp) (fun z => absurd rfl z) (fun z => absurd rfl z)
          · rw [f4] at hnext
            rw [f5] at hp
            refine make_ref hI (res := nI v') (by omega) hi h100 hr (by omega) w2 hN hnext (fun z => absurd z (nI_nm (by omega))) (fun _ z => absurd (hk.symm.trans z) (by decide)) (fun _ _ σ' hN' => ?_)
            rw [nI_1, ← v3] at hN'
            refine ih d' (by omega) _ _ σ' st _ (by omega) v2 (by omega) hN' (fun σ2 h2 => ?_)
            rw [v3] at h2
            exact ih3 m' (by omega) (v' + 1) _ σ2 (by omega) h2 hp
        refine down g.1.1 0 st σ (by omega) hN (go _ ?_)
        unfold gI
        rw [if_neg (by omega), if_neg (by omega)]
  exact key sh.2.2.1 0 _ σ' (by omega) h' hp
theorem make_part {lv : Nat → Nat} (hlv : SHlv sh lv) (hW : WFR g.1) (h100 : sh.2.2.1 ≤ 100) (h20 : sh.1 ≤ 20) (hI : ∀ τ, F_X9_make_68 a post I τ → I τ) : ∀ d p row σ st fr, lv p + (d + 1) = 7 → p < sh.1 → row < g.1.1 → N9 σ0 a e g t sh rl sc σ st (lv p) fr → (∀ σ', N9 σ0 a e g t sh rl sc σ' (gP g.1 sh (d + 1) p row st) (lv p) fr → I σ') → P_X9_begin a (nI p) (nI row) σ I := by
  intro d
  induction d using Nat.strongRecOn with
  | _ d ih =>
  intro p row σ st fr hl hp1 hr h hp
  refine h.begin (by omega) hp1 h20 hr (fun hb σ' h' => hp σ' ?_) (fun hb σ' h' => make_body hlv hW h100 h20 hI ih hl hp1 hr hb h' hp)
  unfold gP; rw [if_pos hb]; exact h'
end PAPER9C
