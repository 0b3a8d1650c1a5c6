section EDIT8
variable {σ σ' σ0 : Hp} {c : Nat → Nat} {s : Nat} {g : G1} {t : G2} {sh : SHT} {rl : RLT} {sc : SCT}
theorem k8_n2 {rc j : Nat} (h : j < rc) : k8 rc (26 + 3 * j) ≠ none ∧ k8 rc (27 + 3 * j) ≠ none ∧ k8 rc (28 + 3 * j) ≠ none := by
  have k := k8_rd h
  rw [k.1, k.2.1, k.2.2]
  exact ⟨fun z => (by cases z), fun z => (by cases z), fun z => (by cases z)⟩
theorem rlP_s (rl : RLT) (j k : Nat) (v : Int32) : (rlP rl j k v).2 j = ((rl.2 j).1, (rl.2 j).2.1, (fun q => if q = k then v else (rl.2 j).2.2.1 q), (rl.2 j).2.2.2) := if_pos rfl
theorem rlP_n (rl : RLT) {i j : Nat} (k : Nat) (v : Int32) (h : i ≠ j) : (rlP rl j k v).2 i = rl.2 i := if_neg h
theorem RD8.put (h : RD8 σ c rl) (hL : L8 σ c rl.1 s) {j k : Nat} {v : Int32} (hj : j < rl.1) : RD8 (si σ (c (28 + 3 * j)) k v) c (rlP rl j k v) := fun i hi => by
  have hi : i < rl.1 := hi
  have ki := k8_n2 hi
  have kj := k8_n2 hj
  obtain ⟨h1, h2, h3⟩ := h i hi
  have n1 : c (26 + 3 * i) ≠ c (28 + 3 * j) := fun z => by
    have := hL.2.1 _ _ ki.1 kj.2.2 z; omega
  have n2 : c (27 + 3 * i) ≠ c (28 + 3 * j) := fun z => by
    have := hL.2.1 _ _ ki.2.1 kj.2.2 z; omega
  rw [gi_sa n1, gi_sa n2, h1, h2]
  by_cases hij : i = j
  · subst hij
    rw [rlP_s]
    refine ⟨rfl, rfl, fun q hq => ?_⟩
    show _ = if q = k then v else _
    by_cases hqk : q = k
    · rw [if_pos hqk, hqk]; exact gi_ss
    · rw [if_neg hqk, gi_sk hqk]; exact h3 q hq
  · rw [rlP_n rl k v hij]
    have n3 : c (28 + 3 * i) ≠ c (28 + 3 * j) := fun z => by
      have := hL.2.1 _ _ ki.2.2 kj.2.2 z; omega
    exact ⟨rfl, rfl, fun q hq => by rw [gi_sa n3]; exact h3 q hq⟩
theorem T8_edit {x1 x2 x3 : Int32} {post : Int32 → Hp → Prop} (h : T8 σ c s g t sh rl sc) (hg : G1ok g) (hn : RLok g.1.1 rl) (hp : ∀ σ', T8 σ' c s (oEdit g rl x1 x2 x3).2.1 t sh (oEdit g rl x1 x2 x3).2.2.1 (sc.1, sc.2.1, (oEdit g rl x1 x2 x3).2.2.2) → Ag (S8 c rl.1) (S8 c rl.1) σ σ' → post (oEdit g rl x1 x2 x3).1 σ') : P_X8_edit (c 0) x1 x2 x3 σ post := by
  have s0 : S8 c rl.1 (c 0) := ⟨0, k8_n (by decide), rfl⟩
  have hL := h.1
  have k0 : gk σ (c 0) = some (8, 0) := hL.k 0 (by decide) rfl
  unfold P_X8_edit
  refine X8_isValue ?_
  by_cases hv : isV x3
  rotate_left
  · rw [if_neg hv]
    have he : oEdit g rl x1 x2 x3 = (-1, g, rl, -1) := by unfold oEdit; rw [if_pos hv]
    rw [he] at hp
    exact ⟨fun z => absurd rfl z, fun _ => ⟨k0, X8_refused hL (hp _ (h.stat _) (Ag.rf.wi _ (Or.inl s0)))⟩⟩
  rw [if_pos hv]
  refine ⟨fun _ => ⟨k0, X8_readerAt h ?_⟩, fun z => absurd z (by decide)⟩
  by_cases hr : isRd rl x1
  rotate_left
  · rw [if_neg hr]
    have he : oEdit g rl x1 x2 x3 = (-2, g, rl, -2) := by unfold oEdit; rw [if_neg (fun z => z hv), if_pos hr]
    rw [he] at hp
    exact ⟨fun _ => ⟨k0, X8_refused hL (hp _ (h.stat _) (Ag.rf.wi _ (Or.inl s0)))⟩, fun b z => by cases z⟩
  rw [if_pos hr]
  have hj : x1.toNatClampNeg < rl.1 := by rw [icl]; have := hr.2; omega
  have hk := k8_rd hj
  have hP := h.pap hn hj
  obtain ⟨r1, r2, r3⟩ := h.1.2.2.2.2.1 _ hj
  refine ⟨fun z => (by cases z), fun b hb => ?_⟩
  cases hb
  have kr := h.1.1 _ _ hk.1
  have bad3 : ¬ edk g rl x1 x2 → gk σ (c 0) = some (8, 0) ∧ P_X8_refused (c 0) (-3) σ (fun r σ => post r σ) := fun hne => by
    have he : oEdit g rl x1 x2 x3 = (-3, g, rl, -3) := by unfold oEdit; rw [if_neg (fun z => z hv), if_neg (fun z => z hr), if_pos hne]
    rw [he] at hp
    exact ⟨k0, X8_refused hL (hp _ (h.stat _) (Ag.rf.wi _ (Or.inl s0)))⟩
  refine ⟨kr, _, r2, hP.1, X1_isValueAt hP ?_⟩
  by_cases hV : isV (oAt (rl.2 x1.toNatClampNeg).2.1 (rl.2 x1.toNatClampNeg).2.2.1 x2)
  rotate_left
  · rw [if_neg hV]
    refine ⟨fun _ => ⟨fun _ => bad3 (fun z => hV ?_), fun b z => by cases z⟩, fun z => absurd rfl z⟩
    unfold oAt
    rw [if_pos z.1]; exact z.2.1
  rw [if_pos hV]
  have hx : 0 ≤ x2.toInt ∧ x2.toInt < (rl.2 x1.toNatClampNeg).2.1 := Classical.byContradiction fun z => by
    unfold oAt at hV
    rw [if_neg z] at hV
    exact absurd hV (by decide)
  have hat : oAt (rl.2 x1.toNatClampNeg).2.1 (rl.2 x1.toNatClampNeg).2.2.1 x2 = (rl.2 x1.toNatClampNeg).2.2.1 x2.toNatClampNeg := by unfold oAt; rw [if_pos hx]
  rw [hat] at hV
  obtain ⟨i, hi, e1, e2⟩ := (hn.row hj (k := x2.toNatClampNeg) (by rw [icl]; omega)).1 hV
  refine ⟨fun z => absurd z (by decide), fun _ => ⟨k0, kr, _, r2, hP.1, X1_rowAround hP hx ?_⟩⟩
  refine ⟨c 1, hL.r 0 0 1 (by decide), hL.k 1 (by decide) rfl, ?_⟩
  rw [e2, ← e1]
  refine X5_standing h.2.1 ?_
  by_cases hs : stn g.1 ((rl.2 x1.toNatClampNeg).2.2.2 x2.toNatClampNeg)
  rotate_left
  · rw [if_neg hs]
    exact ⟨fun _ => bad3 (fun z => hs z.2.2.1), fun b z => by cases z⟩
  obtain ⟨q, hq, hw⟩ := h.2.1.row hs.1
  rw [if_pos hs, hq]
  refine ⟨fun z => (by cases z), fun b hb => ?_⟩
  cases hb
  refine ⟨hw.1, kr, _, r2, hP.1, X1_at hP ?_⟩
  rw [hat, hw.2.2.2.1]
  refine ⟨fun hq2 => ?_, fun hq2 => bad3 (fun z => hq2 z.2.2.2)⟩
  have hE : edk g rl x1 x2 := ⟨hx, hV, hs, hq2⟩
  refine ⟨k0, c 3, hL.r 0 1 3 (by decide), hL.k 3 (by decide) rfl, h.full (fun hm => ⟨fun _ => ?_, fun z => absurd rfl z⟩) (fun hm => ⟨fun z => absurd z (by decide), fun _ => ⟨k0, X8_refused hL ?_⟩⟩)⟩
  rotate_left
  · have he : oEdit g rl x1 x2 x3 = (-5, g, rl, -5) := by unfold oEdit; rw [if_neg (fun z => z hv), if_neg (fun z => z hr), if_neg (fun z => z hE), if_pos hm]
    rw [he] at hp
    exact hp _ (h.stat _) (Ag.rf.wi _ (Or.inl s0))
  have he : oEdit g rl x1 x2 x3 = (hm2 rl x1 x2, tellG g (hm2 rl x1 x2).toNatClampNeg ((g.1.2 (hm2 rl x1 x2).toNatClampNeg).1, x3, (g.1.2 (hm2 rl x1 x2).toNatClampNeg).2.2), rlP rl x1.toNatClampNeg x2.toNatClampNeg x3, 0) := by unfold oEdit; rw [if_neg (fun z => z hv), if_neg (fun z => z hr), if_neg (fun z => z hE), if_neg (by omega)]
  rw [he] at hp
  have hwf := hg.wf
  have h60 := hwf.1
  have hi' : ((rl.2 x1.toNatClampNeg).2.2.2 x2.toNatClampNeg).toNatClampNeg < g.1.1 := by rw [icl]; have := hs.1; omega
  refine ⟨hw.1, X4_withValue (S := fun _ => False) (T := fun _ => False) hw (hwf.2 _ hi').1 (fun q2 σ2 hq2 hA2 hw2 => ⟨q2, rfl, ?_⟩)⟩
  have h2 : T8 σ2 c s g t sh rl sc := h.ag hA2 (fun _ _ => ⟨id, id⟩) (fun _ _ => id)
  have hA2' : Ag (S8 c rl.1) (S8 c rl.1) σ σ2 := hA2.mono (fun _ z => z.elim) (fun _ z => z.elim)
  refine ⟨h2.1.k 0 (by decide) rfl, X8_tell h2.1 h2.2.1 h2.2.2.1 hg.1 hw2 (by omega) (by omega) (by omega) (fun σ3 hA3 hL3 hR3 hH3 => ?_)⟩
  have h3 := h2.told hA3 hL3 hR3 hH3
  have hA3' : Ag (S8 c rl.1) (S8 c rl.1) σ2 σ3 := hA3.mono (fun _ z => S8.il (by decide) z) (fun _ z => S8.il (by decide) z)
  have hwo := (hw.ag hA2 id).ag hA3 (IL.n4 h2.1 (by decide) (hw.ag hA2 id).1)
  obtain ⟨r1', r2', r3'⟩ := h3.1.2.2.2.2.1 _ hj
  have hP3 := h3.pap hn hj
  refine ⟨h3.1.1 _ _ hk.1, _, r2', hP3.1, X1_put hP3 hx ?_⟩
  have n3 := (k8_n2 hj).2.2
  have h4 := h3.rds (S := fun b => b = c (28 + 3 * x1.toNatClampNeg)) (Ag.rf.wi (k := x2.toNatClampNeg) x3 (Or.inl rfl)) (fun b hb => ⟨28 + 3 * x1.toNatClampNeg, by omega, n3, hb⟩) (rl' := rlP rl x1.toNatClampNeg x2.toNatClampNeg x3) rfl (h3.2.2.2.2.2.1.put h3.1 hj)
  have hwo4 := hwo.to (σ' := si σ3 (c (28 + 3 * x1.toNatClampNeg)) x2.toNatClampNeg x3) rfl (fun k => gi_sa (h3.1.n4 n3 hwo.1))
  refine ⟨hwo4.1, h4.1.k 0 (by decide) rfl, X8_answered h4.1 ?_⟩
  rw [hwo4.2.1, nI_cl hs.1.1]
  exact hp _ (h4.stat _) (((hA2'.tr hA3').wi _ (Or.inl ⟨_, n3, rfl⟩)).wi _ (Or.inl s0))
end EDIT8
section EDIT9
variable {σ σ' σ0 : Hp} {a : Nat} {e : Nat → Nat} {g : G1} {t : G2} {sh : SHT} {rl : RLT} {sc : SCT}
theorem RD9.put (h : RD9 σ a e rl) (hL : L9 σ a e) {n : Nat} (hn : RLok n rl) {j k : Nat} {v : Int32} (hj : j < rl.1) (hk : k < (rl.2 j).2.1) : RD9 (si σ (e 51) (600 * j + k) v) a e (rlP rl j k v) := by
  obtain ⟨h1, h2, h3⟩ := h
  have hk6 := (hn.2 j hj).2.1
  refine ⟨by rw [hL.eo (by decide)]; exact h1, fun i hi => ?_, fun i hi hi10 => by rw [hL.ea (by decide) (by decide) (by decide)]; exact h3 i hi hi10⟩
  have hi : i < rl.1 := hi
  obtain ⟨q1, q2, q3⟩ := h2 i hi
  have h6 := (hn.2 i hi).2.1
  rw [hL.ea (by decide) (by decide) (by decide), hL.ea (i := 50) (by decide) (by decide) (by decide), q1, q2]
  by_cases hij : i = j
  · subst hij
    rw [rlP_s]
    refine ⟨rfl, rfl, fun q hq => ?_⟩
    rw [hL.ea (i := 52) (by decide) (by decide) (by decide)]
    refine ⟨?_, (q3 q hq).2⟩
    show _ = if q = k then v else _
    by_cases hqk : q = k
    · rw [if_pos hqk, hqk]; exact gi_ss
    · rw [if_neg hqk, gi_sk (by omega)]; exact (q3 q hq).1
  · rw [rlP_n rl k v hij]
    refine ⟨rfl, rfl, fun q hq => ?_⟩
    rw [hL.ea (i := 52) (by decide) (by decide) (by decide), gi_sk (by omega)]
    exact q3 q hq
theorem T9_edit {x1 x2 x3 : Int32} {post : Int32 → Hp → Prop} (h : T9 σ a e g t sh rl sc) (hg : G1ok g) (hn : RLok g.1.1 rl) (hp : ∀ σ', T9 σ' a e (oEdit g rl x1 x2 x3).2.1 t sh (oEdit g rl x1 x2 x3).2.2.1 (sc.1, sc.2.1, (oEdit g rl x1 x2 x3).2.2.2) → SK σ σ' → Fr (W9 a e) σ σ' → post (oEdit g rl x1 x2 x3).1 σ') : P_X9_edit a x1 x2 x3 σ post := by
  unfold P_X9_edit
  have hT := h.thr 0
  have hs : SK σ (si σ a 0 0) := SK.wi _ _ _
  have hf : Fr (W9 a e) σ (si σ a 0 0) := Fr.rf.ob _ _
  generalize si σ a 0 0 = σ1 at hT hs hf ⊢
  refine ⟨h.1.1, X9_isValue ?_⟩
  by_cases hv : isV x3
  rotate_left
  · rw [if_neg hv]
    have he : oEdit g rl x1 x2 x3 = (-1, g, rl, -1) := by unfold oEdit; rw [if_pos hv]
    rw [he] at hp
    exact ⟨fun z => absurd rfl z, fun _ => ⟨hT.1.1, T9_told hT hs hf hp⟩⟩
  rw [if_pos hv]
  refine ⟨fun _ => ⟨hT.1.1, X9_isReader hT hn.1 ?_⟩, fun z => absurd z (by decide)⟩
  by_cases hr : isRd rl x1
  rotate_left
  · rw [if_neg hr]
    have he : oEdit g rl x1 x2 x3 = (-2, g, rl, -2) := by unfold oEdit; rw [if_neg (fun z => z hv), if_pos hr]
    rw [he] at hp
    exact ⟨fun z => absurd rfl z, fun _ => ⟨hT.1.1, T9_told hT hs hf hp⟩⟩
  rw [if_pos hr]
  have hr' : 0 ≤ x1.toInt ∧ x1.toInt < rl.1 := hr
  have h10 := hn.1
  have hj : x1.toNatClampNeg < rl.1 := by rw [icl]; omega
  obtain ⟨j1, j2, j3⟩ := hT.2.2.2.2.2.1.2.1 _ hj
  have h6 := (hn.2 _ hj).2.1
  refine ⟨fun _ => ⟨hT.1.1, e 50, hT.1.r 50 rfl, 10, hT.1.k 50 rfl, vin (by omega) (by omega), X9_in ?_⟩, fun z => absurd z (by decide)⟩
  rw [j2]
  have hc : (Int32.toInt64 (nI (rl.2 x1.toNatClampNeg).2.1) - 1).toInt = ((rl.2 x1.toNatClampNeg).2.1 : Int) - 1 := by
    have h9 : (Int32.toInt64 (nI (rl.2 x1.toNatClampNeg).2.1)).toInt = ((rl.2 x1.toNatClampNeg).2.1 : Int) := by rw [i64of, nIi (by omega)]
    have h8 : (1 : Int64).toInt = 1 := by decide
    rw [lsub (by rw [h9, h8]; omega) (by rw [h9, h8]; omega), h9, h8]
  rw [hc, i64of, show (0 : Int64).toInt = 0 by decide]
  have bad3 : ¬ edk g rl x1 x2 → P_X9_told a (-3) σ1 (fun r σ => post r σ) := fun hne => by
    have he : oEdit g rl x1 x2 x3 = (-3, g, rl, -3) := by unfold oEdit; rw [if_neg (fun z => z hv), if_neg (fun z => z hr), if_pos hne]
    rw [he] at hp
    exact T9_told hT hs hf hp
  have j75 : ¬ edk g rl x1 x2 → ∀ v4, J_X9_edit_75 post a x3 v4 σ1 := fun hne v4 => by
    unfold J_X9_edit_75 J_X9_edit_76
    exact ⟨fun _ => ⟨hT.1.1, bad3 hne⟩, fun z => absurd rfl z⟩
  by_cases hx : 0 ≤ x2.toInt ∧ x2.toInt < (rl.2 x1.toNatClampNeg).2.1
  rotate_left
  · rw [if_neg (by omega)]
    exact ⟨fun _ => j75 (fun z => hx z.1) _, fun z => absurd rfl z⟩
  rw [if_pos (by omega)]
  have m2 : ((600 : Int32) * x1) + x2 = nI (600 * x1.toNatClampNeg + x2.toNatClampNeg) := by
    rw [← nI_add, ← pk_mul, nI_cl hr'.1, nI_cl hx.1]; rfl
  have hk2 : x2.toNatClampNeg < (rl.2 x1.toNatClampNeg).2.1 := by rw [icl]; omega
  have hb1 : 600 * x1.toNatClampNeg + x2.toNatClampNeg < 6000 := by omega
  refine ⟨fun z => absurd z (by decide), fun _ => ⟨hT.1.1, e 52, hT.1.r 52 rfl, 6000, hT.1.k 52 rfl, by rw [m2]; exact vinN hb1 (by decide), ?_⟩⟩
  rw [m2, clN (by omega), (j3 _ hk2).2]
  obtain ⟨w1, w2⟩ := hn.row hj hk2
  have h60 := hg.wf.1
  refine ⟨fun z => j75 (fun y => ?_) _, fun z => ?_⟩
  · obtain ⟨i, hi, e1, -⟩ := w1 y.2.1
    rw [e1] at z; exact nI_nm (by omega) z
  have hV : isV (hm1 rl x1 x2) := Classical.byContradiction fun y => z (w2 y)
  obtain ⟨i, hi, e1, -⟩ := w1 hV
  have e1' : hm2 rl x1 x2 = nI i := e1
  obtain ⟨d1, d2, d3, d4, d5⟩ := hT.2.1.2.2 i hi
  have hvk := vinN (n := 6000) hb1 (by decide)
  have hvi : vp_in (nI i) 60 := vinN (by omega) (by decide)
  have hst : stn g.1 (hm2 rl x1 x2) ↔ (g.1.2 i).2.2.2.2 ≠ 0 := by
    rw [e1']
    show (0 ≤ (nI i).toInt ∧ (nI i).toInt < g.1.1) ∧ (g.1.2 (nI i).toNatClampNeg).2.2.2.2 ≠ 0 ↔ _
    rw [nIi (by omega), clN (by omega)]
    exact ⟨fun y => y.2, fun y => ⟨by omega, y⟩⟩
  have hvl : (g.1.2 (hm2 rl x1 x2).toNatClampNeg).2.1 = (g.1.2 i).2.1 := by rw [e1', clN (by omega)]
  unfold J_X9_edit_76
  refine ⟨fun z => absurd z (by decide), fun _ => ⟨hT.1.1, e 52, hT.1.r 52 rfl, 6000, hT.1.k 52 rfl, hvk, e 13, hT.1.r 13 rfl, 60, hT.1.k 13 rfl, ?_⟩⟩
  rw [clN (by omega), (j3 _ hk2).2, e1, clN (by omega), d5]
  refine ⟨hvi, fun z => bad3 (fun y => hst.mp y.2.2.1 z), fun z => ⟨hvk, e 11, hT.1.r 11 rfl, 60, hT.1.k 11 rfl, hvi, e 51, hT.1.r 51 rfl, 6000, hT.1.k 51 rfl, hvk, ?_⟩⟩
  rw [d2, (j3 _ hk2).1]
  refine ⟨fun y => ?_, fun y => bad3 (fun w => y (hvl.symm.trans w.2.2.2))⟩
  have hE : edk g rl x1 x2 := ⟨hx, hV, hst.mpr z, hvl.trans y⟩
  refine hT.mo (fun hm => ⟨hvk, ?_⟩) (fun hm => ?_)
  rotate_left
  · have he : oEdit g rl x1 x2 x3 = (-5, g, rl, -5) := by unfold oEdit; rw [if_neg (fun z => z hv), if_neg (fun z => z hr), if_neg (fun z => z hE), if_pos hm]
    rw [he] at hp
    exact T9_told hT hs hf hp
  have he : oEdit g rl x1 x2 x3 = (nI i, tellG g i ((g.1.2 i).1, x3, (g.1.2 i).2.2), rlP rl x1.toNatClampNeg x2.toNatClampNeg x3, 0) := by
    unfold oEdit
    rw [if_neg (fun z => z hv), if_neg (fun z => z hr), if_neg (fun z => z hE), if_neg (by omega), e1', clN (by omega)]
  rw [he] at hp
  refine hT.tell (s := 1) (A := x3) (B := 0) (C := 0) (D := 0) (i := i) hg hm (by omega) (fun z => absurd z (by decide)) (fun _ => hi) (fun z => absurd z (by decide)) (fun σ5 hT5 hs5 hf5 => ?_)
  rw [apD_1] at hT5
  refine ⟨hT5.1.1, e 51, hT5.1.r 51 rfl, 6000, hT5.1.k 51 rfl, hvk, e 52, hT5.1.r 52 rfl, 6000, hT5.1.k 52 rfl, hvk, ?_⟩
  have hr5 := hT5.2.2.2.2.2.1
  have j3' := (hr5.2.1 _ hj).2.2
  rw [hT5.1.ea (by decide) (by decide) (by decide), (j3' _ hk2).2, e1]
  obtain ⟨s1, s2, s3⟩ := hT5.2.2.2.2.2.2
  have hT6 : T9 (si σ5 (e 51) (600 * x1.toNatClampNeg + x2.toNatClampNeg) x3) a e (tellG g i ((g.1.2 i).1, x3, (g.1.2 i).2.2)) t sh (rlP rl x1.toNatClampNeg x2.toNatClampNeg x3) sc :=
    hT5.rds (SK.wi _ _ _) (fun k hk => hT5.1.eo (by decide)) (fun j hj k => hT5.1.ea (k9_r j hj).1 (by decide) (by have := (k9_r j hj).2; omega)) (hr5.put hT5.1 hn hj hk2) ⟨by rw [hT5.1.eo (by decide)]; exact s1, by rw [hT5.1.eo (by decide)]; exact s2, by rw [hT5.1.eo (by decide)]; exact s3⟩
  refine T9_told hT6 ((hs.tr hs5).tr (SK.wi _ _ _)) ((hf.tr hf5).wi _ (Or.inr ⟨51, by decide, rfl⟩)) (fun σ' h' hs' hf' => hp σ' ?_ hs' hf')
  rw [if_pos (by rw [nIi (by omega)]; omega)] at h'
  exact h'
end EDIT9
theorem oEdit_ok {g : G1} {rl : RLT} {x1 x2 v : Int32} (hg : G1ok g) (hn : RLok g.1.1 rl) : G1ok (oEdit g rl x1 x2 v).2.1 ∧ RLok (oEdit g rl x1 x2 v).2.1.1.1 (oEdit g rl x1 x2 v).2.2.1 ∧ (oEdit g rl x1 x2 v).2.2.1.1 = rl.1 := by
  unfold oEdit
  have hw := hg.wf
  split
  · exact ⟨hg, hn, rfl⟩
  · split
    · exact ⟨hg, hn, rfl⟩
    · split
      · exact ⟨hg, hn, rfl⟩
      · split
        · exact ⟨hg, hn, rfl⟩
        · rename_i q1 q2 q3 q4
          have q1 := Classical.not_not.mp q1
          have q3 := Classical.not_not.mp q3
          have h60 := hw.1
          have hi : (hm2 rl x1 x2).toNatClampNeg < g.1.1 := by rw [icl]; have := q3.2.2.1.1; omega
          obtain ⟨w1, w2, w3, w4, w5⟩ := hw.2 _ hi
          exact ⟨hg.tell (hw.set (by omega) (by omega) ⟨w1, w2, w3, w4, q1⟩), (hn.put q1 q3.2.1).mono tellG_n, rfl⟩
section CALLS
variable {σ : Hp} {a8 a9 : Nat} {K : Hp → Prop}
theorem call_edit {x1 x2 x3 : Int32} (h : TIE a8 a9 σ) (hK : ∀ σ', TIE a8 a9 σ' → K σ') {Q8 : Int32 → Hp → Prop} (hQ : ∀ r1 σ1, (gk σ1 a9 = some (9, 0) ∧ P_X9_edit a9 x1 x2 x3 σ1 (fun r2 σ2 => (r1 = r2 → K σ2) ∧ (¬ r1 = r2 → False))) → Q8 r1 σ1) : P_X8_edit a8 x1 x2 x3 σ Q8 := by
  obtain ⟨c, e, s, g, t, sh, rl, sc, rfl, hT8, hT9, hdis, hg, hsh, hrl⟩ := h
  have ho := oEdit_ok (x1 := x1) (x2 := x2) (v := x3) hg hrl
  exact bothG (P9 := fun σ1 post => P_X9_edit a9 x1 x2 x3 σ1 post) hT8 hT9 hdis ho.1 hsh ho.2.1 (fun post hp => T8_edit hT8 hg hrl (fun σ' h' hA => hp σ' c s rfl h' hA (fun i hi => Or.inl ⟨i, by rw [ho.2.2] at hi; exact hi, rfl⟩))) (fun σ1 post h9 hp => T9_edit h9 hg hrl hp) hK hQ
end CALLS
