/-! items in a row, part by part -/
theorem nxt_s (it : Nat → Nat × Nat × Nat × Nat) (p m j : Nat) : nxt it p (m + 1) j = if (it j).1 = p then nI j else nxt it p m (j + 1) := rfl
theorem lst_s (it : Nat → Nat × Nat × Nat × Nat) (p m : Nat) : lst it p (m + 1) = if (it m).1 = p then nI m else lst it p m := rfl
theorem nxt_iff {it : Nat → Nat × Nat × Nat × Nat} {p : Nat} : ∀ m j, j + m < 1000 → (nxt it p m j = -1 ↔ ∀ i, j ≤ i → i < j + m → (it i).1 ≠ p)
  | 0, j, _ => ⟨fun _ i h1 h2 => absurd h2 (by omega), fun _ => rfl⟩
  | m + 1, j, hb => by
    rw [nxt_s]
    by_cases h : (it j).1 = p
    · rw [if_pos h]
      exact ⟨fun z => absurd z (nI_nm (by omega)), fun z => absurd h (z j (Nat.le_refl _) (by omega))⟩
    · rw [if_neg h, nxt_iff m (j + 1) (by omega)]
      refine ⟨fun z i h1 h2 => ?_, fun z i h1 h2 => z i (by omega) (by omega)⟩
      by_cases hij : i = j
      · rw [hij]; exact h
      · exact z i (by omega) (by omega)
theorem nxt_app {it : Nat → Nat × Nat × Nat × Nat} {p : Nat} : ∀ m j, j + m < 999 → nxt it p (m + 1) j = if nxt it p m j = -1 then (if (it (j + m)).1 = p then nI (j + m) else -1) else nxt it p m j
  | 0, j, _ => by
    rw [nxt_s, show nxt it p 0 j = -1 from rfl, if_pos rfl]
    rfl
  | m + 1, j, hb => by
    rw [nxt_s it p (m + 1) j, nxt_s it p m j]
    by_cases h : (it j).1 = p
    · rw [if_pos h, if_pos h, if_neg (nI_nm (by omega))]
    · rw [if_neg h, if_neg h, nxt_app m (j + 1) (by omega), show j + 1 + m = j + (m + 1) by omega]
theorem nxt_co {it it' : Nat → Nat × Nat × Nat × Nat} {p : Nat} : ∀ m j, (∀ i, j ≤ i → i < j + m → it' i = it i) → nxt it' p m j = nxt it p m j
  | 0, _, _ => rfl
  | m + 1, j, h => by
    rw [nxt_s, nxt_s, h j (Nat.le_refl _) (by omega), nxt_co m (j + 1) (fun i h1 h2 => h i (by omega) (by omega))]
theorem lst_co {it it' : Nat → Nat × Nat × Nat × Nat} {p : Nat} : ∀ m, (∀ i, i < m → it' i = it i) → lst it' p m = lst it p m
  | 0, _ => rfl
  | m + 1, h => by
    rw [lst_s, lst_s, h m (by omega), lst_co m (fun i h1 => h i (by omega))]
theorem lst_c {it : Nat → Nat × Nat × Nat × Nat} {p : Nat} : ∀ m, (lst it p m = -1 ∧ ∀ i, i < m → (it i).1 ≠ p) ∨ ∃ l, l < m ∧ lst it p m = nI l ∧ (it l).1 = p ∧ ∀ i, l < i → i < m → (it i).1 ≠ p
  | 0 => Or.inl ⟨rfl, fun i hi => absurd hi (Nat.not_lt_zero _)⟩
  | m + 1 => by
    rw [lst_s]
    by_cases h : (it m).1 = p
    · rw [if_pos h]
      exact Or.inr ⟨m, by omega, rfl, h, fun i h1 h2 => absurd h2 (by omega)⟩
    · rw [if_neg h]
      rcases lst_c (it := it) (p := p) m with ⟨h1, h2⟩ | ⟨l, h1, h2, h3, h4⟩
      · refine Or.inl ⟨h1, fun i hi => ?_⟩
        by_cases him : i = m
        · rw [him]; exact h
        · exact h2 i (by omega)
      · refine Or.inr ⟨l, by omega, h2, h3, fun i hl hi => ?_⟩
        by_cases him : i = m
        · rw [him]; exact h
        · exact h4 i hl (by omega)
section PART9
variable {σ σ' σ0 : Hp} {a : Nat} {e : Nat → Nat} {g : G1} {t : G2} {sh : SHT} {rl : RLT} {sc : SCT} {x : PS} {d : Nat} {op : Nat → Nat}
def opU (op : Nat → Nat) (d p : Nat) : Nat → Nat := fun j => if j = d then p else op j
/-- ints of the scratch arrays, through writes -/
theorem L9.wn (h : L9 σ a e) {i j q z : Nat} {v : Int32} (hi : 23 ≤ i ∧ i ≤ 30) (hj : 23 ≤ j ∧ j ≤ 30) (hij : i ≠ j) : gi (si σ (e j) q v) (e i) z = gi σ (e i) z := h.ea (k9_n i hi.1 hi.2) (k9_n j hj.1 hj.2) hij
theorem C9.part (hC : C9 σ0 a e g t sh rl sc) (h : R9x σ0 a e t σ x d op) (hx : TKW t x) (hn : 2 * nT x ≤ x.1) (hW : WP x d) (hd6 : d ≤ 6) {post : Int32 → Hp → Prop}
    (f1 : (tab t x = -1 ∨ ¬ nP x < 20) → ∀ σ', B9 σ0 a e σ' x.1 → post 0 σ') (k0 : ¬ (tab t x = -1 ∨ ¬ nP x < 20) → ¬ sgn t (pA t d x) 123 → ∀ σ', R9x σ0 a e t σ' (pA t d x) d op → post 0 σ')
    (f2 : ¬ (tab t x = -1 ∨ ¬ nP x < 20) → sgn t (pA t d x) 123 → ¬ d < 6 → ∀ σ', B9 σ0 a e σ' (pA t d x).1 → post 1 σ') (k1 : ¬ (tab t x = -1 ∨ ¬ nP x < 20) → sgn t (pA t d x) 123 → d < 6 → ∀ σ', R9x σ0 a e t σ' (adv t (pA t d x)) (d + 1) (opU op d (nP x)) → post 1 σ') : P_X9_readPart a σ post := by
  have hT := hC.2
  have h200 : t.1 ≤ 200 := hT.1
  have hxl := hx.le hT
  have hL := hC.L h.1
  have h36 : gi σ a 36 = nI (srt t x.1) := h.2.2.2.2.1
  have h37 : (gl σ a 37).toInt = wth t x := h.2.2.2.2.2
  have h21 : gi σ a 21 = nI (nP x) := h.2.1.2.2.1
  have h3 := srt_le t x.1
  have h20 : nP x ≤ 20 := hW.1
  obtain ⟨tc, tv⟩ := tab_c hT hx
  have j44 : (tab t x = -1 ∨ ¬ nP x < 20) → ∀ v1, J_X9_readPart_44 post a v1 σ := fun hbad v1 => by
    unfold J_X9_readPart_44 J_X9_readPart_45
    refine ⟨hL.1, hC.must0 h (fun σ' h' => ⟨(hC.L h'.1).1, fun z => ?_, fun _ => f1 hbad σ' h'⟩)⟩
    rw [h'.2.1] at z; exact absurd z (by decide)
  unfold P_X9_readPart
  rw [h36, show (1 : Int32) = nI 1 from rfl, nI_k (by omega) (by decide)]
  refine ⟨hL.1, fun z => j44 (Or.inl (Classical.byContradiction fun y => z (tc.mpr y).1)) _, fun z => X9_in ?_⟩
  rw [h37, show (1 : Int64).toInt = 1 by decide, show (4 : Int64).toInt = 4 by decide]
  by_cases hw : 1 ≤ wth t x ∧ wth t x ≤ 4
  rotate_left
  · rw [if_neg hw]
    exact ⟨fun _ => j44 (Or.inl (Classical.byContradiction fun y => hw (tc.mpr y).2)) _, fun y => absurd rfl y⟩
  rw [if_pos hw]
  have htab : tab t x ≠ -1 := tc.mp ⟨z, hw⟩
  refine ⟨fun y => absurd y (by decide), fun _ => ⟨hL.1, fun y => ?_, fun y => ?_⟩⟩
  · rw [h21, ile, nIi (by omega), show (20 : Int32).toInt = 20 by decide] at y
    exact j44 (Or.inr (by omega)) _
  rw [h21, ile, nIi (by omega), show (20 : Int32).toInt = 20 by decide] at y
  have hP : nP x < 20 := by omega
  have hgood : ¬ (tab t x = -1 ∨ ¬ nP x < 20) := fun u => u.elim htab (fun v => v hP)
  have hv1 : Int64.toInt32 (gl σ a 37) - nI 1 = tab t x := by
    have ht := tv htab
    have hi := tab_in htab
    have e1 : (Int64.toInt32 (gl σ a 37)).toInt = wth t x := by rw [Int64.toInt_toInt32, h37]; exact ibm (by omega) (by omega)
    have e2 : (nI 1).toInt = 1 := by decide
    rw [ieq, isub (by rw [e1, e2]; omega) (by rw [e1, e2]; omega), e1, e2]; omega
  rw [hv1]
  unfold J_X9_readPart_45
  refine ⟨hL.1, hC.must1 h (by omega) (by decide) (fun σ1 h1 => ⟨(hC.L h1.1).1, fun _ => ?_, fun u => absurd h1.2.1.1 u⟩)⟩
  have hL1 := hC.L h1.1
  have n21 : gi σ1 a 21 = nI (nP x) := h1.2.1.2.2.1
  have hvn : vp_in (nI (nP x)) 20 := vinN hP (by decide)
  refine ⟨e 23, hL1.r 23 rfl, 20, hL1.k 23 rfl, by rw [n21]; exact hvn, e 24, hL1.r 24 rfl, 20, hL1.k 24 rfl, by rw [n21]; exact hvn, e 25, hL1.r 25 rfl, 20, hL1.k 25 rfl, by rw [n21]; exact hvn, ?_⟩
  rw [n21, clN (by omega), nI_1]
  obtain ⟨r1, r2, r3, r4, r5, r6, r7⟩ := pA_ok hT hx hn hW htab hP
  have h2 : R9x σ0 a e t (si (si (si (si σ1 (e 23) (nP x) (tab t x)) (e 24) (nP x) (-1 : Int32)) (e 25) (nP x) (-1 : Int32)) a 21 (nI (nP x + 1))) (pA t d x) d op := by
    obtain ⟨q1, ⟨s1, s2, s3, s4, s5, s6, s7, s8⟩, ⟨u1, u2, u3, u4⟩⟩ := h1
    have na : ∀ j, 23 ≤ j → j ≤ 30 → a ≠ e j := fun j j1 j2 => Ne.symm (hL1.na j (k9_n j j1 j2))
    have ga : ∀ k, k ≠ 21 → gi (si (si (si (si σ1 (e 23) (nP x) (tab t x)) (e 24) (nP x) (-1 : Int32)) (e 25) (nP x) (-1 : Int32)) a 21 (nI (nP x + 1))) a k = gi σ1 a k := fun k hk => by
      rw [gi_sk hk, gi_sa (na 25 (by decide) (by decide)), gi_sa (na 24 (by decide) (by decide)), gi_sa (na 23 (by decide) (by decide))]
    have ge : ∀ j, 26 ≤ j → j ≤ 30 → ∀ z, gi (si (si (si (si σ1 (e 23) (nP x) (tab t x)) (e 24) (nP x) (-1 : Int32)) (e 25) (nP x) (-1 : Int32)) a 21 (nI (nP x + 1))) (e j) z = gi σ1 (e j) z := fun j j1 j2 z => by
      rw [gi_sa (Ne.symm (na j (by omega) j2)), gi_sa (hL1.ne (i := j) (j := 25) (k9_n j (by omega) j2) (by decide) (by omega)), gi_sa (hL1.ne (i := j) (j := 24) (k9_n j (by omega) j2) (by decide) (by omega)), gi_sa (hL1.ne (i := j) (j := 23) (k9_n j (by omega) j2) (by decide) (by omega))]
    have hown : ∀ i, i < nT x → (itx x i).1 ≠ nP x := fun i hi => by have := (hW.2.2 i hi).1; omega
    have hT9 : nT x ≤ 100 := by omega
    have n35 : e 23 ≠ e 25 := hL1.ne (by decide) (by decide) (by decide)
    have n34' : e 23 ≠ e 24 := hL1.ne (by decide) (by decide) (by decide)
    have n45 : e 24 ≠ e 25 := hL1.ne (by decide) (by decide) (by decide)
    refine ⟨(((q1.we hC.1.1 _ (by omega)).we hC.1.1 _ (by omega)).we hC.1.1 _ (by omega)).wa hC.1.1 _ (by decide), ⟨by rw [ga 39 (by decide)]; exact s1, by rw [ga 38 (by decide)]; exact s2, gi_ss, by rw [ga 22 (by decide)]; exact s4, by rw [ga 31 (by decide)]; exact s5, fun p hp => ?_, fun i hi => ?_, fun j hj => by rw [ge 30 (by decide) (by decide)]; exact s8 j hj⟩, ⟨by rw [ga 34 (by decide)]; exact u1, by rw [ga 35 (by decide)]; exact u2, by rw [ga 36 (by decide)]; exact u3, u4⟩⟩
    · have hp : p < nP x + 1 := hp
      rw [gi_sa (hL1.na 23 (by decide)), gi_sa n35, gi_sa n34', gi_sa (hL1.na 24 (by decide)), gi_sa n45, gi_sa (hL1.na 25 (by decide)), gi_si, gi_si, gi_sa (Ne.symm n34'), gi_si, gi_sa (Ne.symm n45), gi_sa (Ne.symm n35)]
      show (if e 23 = e 23 ∧ p = nP x then tab t x else gi σ1 (e 23) p) = (if p = nP x then tab t x else x.2.2.1.2.1 p) ∧ (if e 24 = e 24 ∧ p = nP x then (-1 : Int32) else gi σ1 (e 24) p) = nxt (itx x) p (nT x) 0 ∧ (if e 25 = e 25 ∧ p = nP x then (-1 : Int32) else gi σ1 (e 25) p) = lst (itx x) p (nT x)
      by_cases hpn : p = nP x
      · rw [if_pos ⟨rfl, hpn⟩, if_pos hpn, if_pos ⟨rfl, hpn⟩, if_pos ⟨rfl, hpn⟩, hpn]
        refine ⟨rfl, ((nxt_iff (nT x) 0 (by omega)).mpr (fun i _ hi => hown i (by omega))).symm, ?_⟩
        rcases lst_c (it := itx x) (p := nP x) (nT x) with ⟨w1, w2⟩ | ⟨l, w1, w2, w3, w4⟩
        · exact w1.symm
        · exact absurd w3 (hown l w1)
      · rw [if_neg (fun z => hpn z.2), if_neg hpn, if_neg (fun z => hpn z.2), if_neg (fun z => hpn z.2)]
        exact s6 p (by show p < nP x; omega)
    · rw [ge 26 (by decide) (by decide), ge 27 (by decide) (by decide), ge 28 (by decide) (by decide), ge 29 (by decide) (by decide)]
      exact s7 i hi
  generalize si (si (si (si σ1 (e 23) (nP x) (tab t x)) (e 24) (nP x) (-1 : Int32)) (e 25) (nP x) (-1 : Int32)) a 21 (nI (nP x + 1)) = σ2 at h2 ⊢
  have e6 : nP (pA t d x) = nP x + 1 := r6
  generalize pA t d x = y1 at r1 r2 r3 r4 r5 r6 r7 e6 h2 k0 f2 k1
  have hyl := r1.le hT
  have h31 : gi σ2 a 31 = nI d := h2.2.1.2.2.2.2.1
  refine hC.sign h2 (v := 123) (by decide) (fun u => ⟨fun w => absurd w (by decide), fun _ => ⟨(hC.L h2.1).1, fun w => ?_, fun w => ?_⟩⟩) (fun u => ⟨fun _ => ?_, fun w => absurd rfl w⟩)
  · rw [h31, ile, nIi (by omega), show (6 : Int32).toInt = 6 by decide] at w
    unfold J_X9_readPart_123
    refine ⟨(hC.L h2.1).1, hC.must0 h2 (fun σ3 h3 => ?_)⟩
    unfold J_X9_readPart_126
    refine ⟨fun v => absurd v (by decide), fun _ => ⟨(hC.L h3.1).1, fun _ => ⟨Or.inr rfl, f2 hgood u (by omega) σ3 h3⟩, fun v => ?_⟩⟩
    rw [h3.2.1] at v; exact absurd v (by decide)
  · rw [h31, ile, nIi (by omega), show (6 : Int32).toInt = 6 by decide] at w
    unfold J_X9_readPart_123
    refine ⟨(hC.L h2.1).1, hC.must1 h2 (by omega) (by decide) (fun σ3 h3 => ?_)⟩
    unfold J_X9_readPart_126
    refine ⟨fun v => absurd v (by decide), fun _ => ⟨(hC.L h3.1).1, fun v => absurd h3.2.1.1 v, fun _ => ?_⟩⟩
    have hL3 := hC.L h3.1
    have m31 : gi σ3 a 31 = nI d := h3.2.1.2.2.2.2.1
    have m21 : gi σ3 a 21 = nI (nP x + 1) := by rw [← e6]; exact h3.2.1.2.2.1
    refine ⟨e 30, hL3.r 30 rfl, 6, hL3.k 30 rfl, by rw [m31]; exact vinN (by omega) (by decide), Or.inr rfl, ?_⟩
    rw [m31, m21, nI_1, nI_pred, clN (by omega)]
    refine k1 hgood u (by omega) _ ?_
    obtain ⟨q1, ⟨s1, s2, s3, s4, s5, s6, s7, s8⟩, ⟨u1, u2, u3, u4⟩⟩ := h3
    have na : a ≠ e 30 := Ne.symm (hL3.na 30 (by decide))
    have ga : ∀ k, k ≠ 31 → gi (si (si σ3 (e 30) d (nI (nP x))) a 31 (nI (d + 1))) a k = gi σ3 a k := fun k hk => by rw [gi_sk hk, gi_sa na]
    have ge : ∀ j, 23 ≤ j → j ≤ 29 → ∀ z, gi (si (si σ3 (e 30) d (nI (nP x))) a 31 (nI (d + 1))) (e j) z = gi σ3 (e j) z := fun j j1 j2 z => by
      rw [gi_sa (hL3.na j (k9_n j j1 (by omega))), gi_sa (hL3.ne (i := j) (j := 30) (k9_n j j1 (by omega)) (by decide) (by omega))]
    refine ⟨(q1.we hC.1.1 _ (by omega)).wa hC.1.1 _ (by decide), ⟨by rw [ga 39 (by decide)]; exact s1, by rw [ga 38 (by decide)]; exact s2, by rw [ga 21 (by decide)]; exact s3, by rw [ga 22 (by decide)]; exact s4, gi_ss, fun p hp => ?_, fun i hi => ?_, fun j hj => ?_⟩, ⟨by rw [ga 34 (by decide)]; exact u1, by rw [ga 35 (by decide)]; exact u2, by rw [ga 36 (by decide)]; exact u3, u4⟩⟩
    · rw [ge 23 (by decide) (by decide), ge 24 (by decide) (by decide), ge 25 (by decide) (by decide)]
      exact s6 p hp
    · rw [ge 26 (by decide) (by decide), ge 27 (by decide) (by decide), ge 28 (by decide) (by decide), ge 29 (by decide) (by decide)]
      exact s7 i hi
    · rw [gi_sa (hL3.na 30 (by decide))]
      show _ = nI (if j = d then nP x else op j)
      by_cases hjd : j = d
      · rw [if_pos hjd, hjd, gi_ss]
      · rw [if_neg hjd, gi_sk hjd]; exact s8 j (by omega)
  · unfold J_X9_readPart_126
    exact ⟨fun _ => ⟨Or.inl rfl, k0 hgood u σ2 h2⟩, fun w => absurd rfl w⟩
end PART9
