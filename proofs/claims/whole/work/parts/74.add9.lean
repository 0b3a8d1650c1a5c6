section ADD9
variable {σ σ' σ0 : Hp} {a : Nat} {e : Nat → Nat} {g : G1} {t : G2} {sh : SHT} {rl : RLT} {sc : SCT} {y : PS} {d : Nat} {op : Nat → Nat}
theorem addI_24 (y : PS) (it : Nat × Nat × Nat × Nat) (q : Nat) (hK : nT y ≤ 100) : nxt (itx (addI y it)) q (nT y + 1) 0 = if nxt (itx y) q (nT y) 0 = -1 then (if it.1 = q then nI (nT y) else -1) else nxt (itx y) q (nT y) 0 := by
  rw [nxt_app (nT y) 0 (by omega), nxt_co (it := itx y) (nT y) 0 (fun i _ h => addI_n _ _ (by omega)), Nat.zero_add, addI_s]
theorem addI_25 (y : PS) (it : Nat × Nat × Nat × Nat) (q : Nat) : lst (itx (addI y it)) q (nT y + 1) = if it.1 = q then nI (nT y) else lst (itx y) q (nT y) := by
  rw [lst_s, addI_s, lst_co (it := itx y) (nT y) (fun i h => addI_n _ _ (by omega))]
theorem addI_29 (y : PS) (it : Nat × Nat × Nat × Nat) {i : Nat} (hi : i < nT y) (o : Nat) (hK : nT y ≤ 100) : nxt (itx (addI y it)) o (nT y + 1 - (i + 1)) (i + 1) = if nxt (itx y) o (nT y - (i + 1)) (i + 1) = -1 then (if it.1 = o then nI (nT y) else -1) else nxt (itx y) o (nT y - (i + 1)) (i + 1) := by
  rw [show nT y + 1 - (i + 1) = (nT y - (i + 1)) + 1 by omega, nxt_app (nT y - (i + 1)) (i + 1) (by omega), nxt_co (it := itx y) (nT y - (i + 1)) (i + 1) (fun j _ h => addI_n _ _ (by omega)), show i + 1 + (nT y - (i + 1)) = nT y by omega, addI_s]
theorem C9.add (hC : C9 σ0 a e g t sh rl sc) (h : R9x σ0 a e t σ y d op) (hd1 : 1 ≤ d) (hd6 : d ≤ 6) {it : Nat × Nat × Nat × Nat} (hop : op (d - 1) = it.1) (hp : it.1 < nP y) (h20 : nP y ≤ 20) (h100 : nT y < 100) (hk2 : it.2.1 ≤ 2) {v2 : Int32} (hv : it.2.1 ≠ 0 → v2 = nI it.2.2.1 ∧ it.2.2.2 = nP y) {post : Int32 → Hp → Prop}
    (hz : it.2.1 = 0 → ∀ σ', R9x σ0 a e t σ' (addI y it) d op → post 0 σ') (hr : it.2.1 ≠ 0 → ∀ σ', R9x σ0 a e t σ' (addI y it) d op → P_X9_readPart a σ' (fun (r : Int32) (σ : Hp) => (r = 0 → post 0 σ) ∧ (¬ (r = 0) → post 1 σ))) : J_X9_readItem_105 post a (nI it.2.1) v2 σ := by
  have hL := hC.L h.1
  obtain ⟨q1, ⟨s1, s2, s3, s4, s5, s6, s7, s8⟩, ⟨u1, u2, u3, u4⟩⟩ := id h
  have s3 : gi σ a 21 = nI (nP y) := s3
  have s4 : gi σ a 22 = nI (nT y) := s4
  have e31 : gi σ a 31 - (1 : Int32) = nI (d - 1) := by
    rw [s5]
    obtain ⟨d', rfl⟩ : ∃ d', d = d' + 1 := ⟨d - 1, by omega⟩
    exact nI_pred d'
  have e30 : gi σ (e 30) (d - 1) = nI it.1 := by rw [s8 (d - 1) (by omega), hop]
  have hvK : vp_in (nI (nT y)) 200 := vinN (by omega) (by decide)
  have hvp : vp_in (nI it.1) 20 := vinN (by omega) (by decide)
  have kn : ∀ j, 23 ≤ j → j ≤ 30 → k9 j ≠ none := k9_n
  have na : ∀ j, 23 ≤ j → j ≤ 30 → e j ≠ a := fun j h1 h2 => hL.na j (kn j h1 h2)
  have ne : ∀ i j, 23 ≤ i → i ≤ 30 → 23 ≤ j → j ≤ 30 → i ≠ j → e i ≠ e j := fun i j h1 h2 h3 h4 hij => hL.ne (kn i h1 h2) (kn j h3 h4) hij
  unfold J_X9_readItem_105
  refine ⟨hL.1, fun _ => ?_, fun z => absurd s1 z⟩
  refine ⟨e 30, hL.r 30 rfl, 6, hL.k 30 rfl, by rw [e31]; exact vinN (by omega) (by decide), e 26, hL.r 26 rfl, 200, hL.k 26 rfl, by rw [s4]; exact hvK, e 27, hL.r 27 rfl, 200, hL.k 27 rfl, by rw [s4]; exact hvK, e 28, hL.r 28 rfl, 200, hL.k 28 rfl, by rw [s4]; exact hvK, e 29, hL.r 29 rfl, 200, hL.k 29 rfl, by rw [s4]; exact hvK, e 25, hL.r 25 rfl, 20, hL.k 25 rfl, ?_⟩
  rw [e31, clN (by omega), e30, s4, s3, clN (show nT y < 2147483648 by omega), clN (show it.1 < 2147483648 by omega), nI_1]
  generalize hS : si (si (si (si σ (e 26) (nT y) (nI it.2.1)) (e 27) (nT y) v2) (e 28) (nT y) (nI (nP y))) (e 29) (nT y) (-1 : Int32) = S
  have fS : F9 σ0 a e S := by rw [← hS]; exact (((q1.we hC.1.1 _ (by omega)).we hC.1.1 _ (by omega)).we hC.1.1 _ (by omega)).we hC.1.1 _ (by omega)
  have fa : ∀ k, gi S a k = gi σ a k := fun k => by
    rw [← hS, gi_sa (Ne.symm (na 29 (by decide) (by decide))), gi_sa (Ne.symm (na 28 (by decide) (by decide))), gi_sa (Ne.symm (na 27 (by decide) (by decide))), gi_sa (Ne.symm (na 26 (by decide) (by decide)))]
  have fl : gl S a 37 = gl σ a 37 := by rw [← hS]; rfl
  have fo : ∀ j, (23 ≤ j ∧ j ≤ 25 ∨ j = 30) → ∀ z, gi S (e j) z = gi σ (e j) z := fun j hj z => by
    rw [← hS, gi_sa (ne j 29 (by omega) (by omega) (by decide) (by decide) (by omega)), gi_sa (ne j 28 (by omega) (by omega) (by decide) (by decide) (by omega)), gi_sa (ne j 27 (by omega) (by omega) (by decide) (by decide) (by omega)), gi_sa (ne j 26 (by omega) (by omega) (by decide) (by decide) (by omega))]
  have f26 : ∀ i, gi S (e 26) i = if i = nT y then nI it.2.1 else gi σ (e 26) i := fun i => by
    rw [← hS, gi_sa (ne 26 29 (by decide) (by decide) (by decide) (by decide) (by decide)), gi_sa (ne 26 28 (by decide) (by decide) (by decide) (by decide) (by decide)), gi_sa (ne 26 27 (by decide) (by decide) (by decide) (by decide) (by decide)), gi_si]
    by_cases hi : i = nT y
    · rw [if_pos ⟨rfl, hi⟩, if_pos hi]
    · rw [if_neg (fun z => hi z.2), if_neg hi]
  have f27 : ∀ i, gi S (e 27) i = if i = nT y then v2 else gi σ (e 27) i := fun i => by
    rw [← hS, gi_sa (ne 27 29 (by decide) (by decide) (by decide) (by decide) (by decide)), gi_sa (ne 27 28 (by decide) (by decide) (by decide) (by decide) (by decide)), gi_si]
    by_cases hi : i = nT y
    · rw [if_pos ⟨rfl, hi⟩, if_pos hi]
    · rw [if_neg (fun z => hi z.2), if_neg hi, gi_sa (ne 27 26 (by decide) (by decide) (by decide) (by decide) (by decide))]
  have f28 : ∀ i, gi S (e 28) i = if i = nT y then nI (nP y) else gi σ (e 28) i := fun i => by
    rw [← hS, gi_sa (ne 28 29 (by decide) (by decide) (by decide) (by decide) (by decide)), gi_si]
    by_cases hi : i = nT y
    · rw [if_pos ⟨rfl, hi⟩, if_pos hi]
    · rw [if_neg (fun z => hi z.2), if_neg hi, gi_sa (ne 28 27 (by decide) (by decide) (by decide) (by decide) (by decide)), gi_sa (ne 28 26 (by decide) (by decide) (by decide) (by decide) (by decide))]
  have f29 : ∀ i, gi S (e 29) i = if i = nT y then -1 else gi σ (e 29) i := fun i => by
    rw [← hS, gi_si]
    by_cases hi : i = nT y
    · rw [if_pos ⟨rfl, hi⟩, if_pos hi]
    · rw [if_neg (fun z => hi z.2), if_neg hi, gi_sa (ne 29 28 (by decide) (by decide) (by decide) (by decide) (by decide)), gi_sa (ne 29 27 (by decide) (by decide) (by decide) (by decide) (by decide)), gi_sa (ne 29 26 (by decide) (by decide) (by decide) (by decide) (by decide))]
  clear hS
  have hX : gi S (e 25) it.1 = lst (itx y) it.1 (nT y) := by rw [fo 25 (by omega)]; exact (s6 it.1 hp).2.2
  rw [hX]
  -- what follows once the item is linked
  have fin : ∀ S2, F9 σ0 a e S2 → (∀ k, k ≠ 22 → gi S2 a k = gi S a k) → gi S2 a 22 = nI (nT y + 1) → gl S2 a 37 = gl S a 37 → (∀ j, 23 ≤ j → j ≤ 30 → j ≠ 24 → j ≠ 29 → ∀ z, gi S2 (e j) z = gi S (e j) z) → (∀ q, q < nP y → gi S2 (e 24) q = nxt (itx (addI y it)) q (nT y + 1) 0) → (∀ i, i < nT y + 1 → gi S2 (e 29) i = nxt (itx (addI y it)) (itx (addI y it) i).1 (nT y + 1 - (i + 1)) (i + 1)) → J_X9_readItem_211 post a (nI it.2.1) (nI it.1) (nI (nT y)) S2 := fun S2 g1 g2 g3 g4 g5 g6 g7 => by
    have hL2 := hC.L g1
    have hfin : R9x σ0 a e t (si S2 (e 25) it.1 (nI (nT y))) (addI y it) d op := by
      have a2 : ∀ k, gi (si S2 (e 25) it.1 (nI (nT y))) a k = gi S2 a k := fun k => gi_sa (Ne.symm (na 25 (by decide) (by decide)))
      have b2 : ∀ j, 23 ≤ j → j ≤ 30 → j ≠ 25 → ∀ z, gi (si S2 (e 25) it.1 (nI (nT y))) (e j) z = gi S2 (e j) z := fun j j1 j2 j3 z => gi_sa (ne j 25 j1 j2 (by decide) (by decide) j3)
      refine ⟨g1.we hC.1.1 _ (by omega), ⟨by rw [a2, g2 39 (by decide), fa]; exact s1, by rw [a2, g2 38 (by decide), fa]; exact s2, by rw [a2, g2 21 (by decide), fa]; exact s3, by rw [a2]; exact g3, by rw [a2, g2 31 (by decide), fa]; exact s5, fun q hq => ?_, fun i hi => ?_, fun j hj => ?_⟩, ⟨by rw [a2, g2 34 (by decide), fa]; exact u1, by rw [a2, g2 35 (by decide), fa]; exact u2, by rw [a2, g2 36 (by decide), fa]; exact u3, ?_⟩⟩
      · have hq : q < nP y := hq
        obtain ⟨w1, w2, w3⟩ := s6 q hq
        refine ⟨?_, ?_, ?_⟩
        · rw [b2 23 (by decide) (by decide) (by decide), g5 23 (by decide) (by decide) (by decide) (by decide), fo 23 (by omega)]; exact w1
        · rw [b2 24 (by decide) (by decide) (by decide)]; exact g6 q hq
        · show _ = lst (itx (addI y it)) q (nT y + 1)
          rw [addI_25]
          by_cases hqp : it.1 = q
          · rw [if_pos hqp, ← hqp, gi_ss]
          · rw [if_neg hqp, gi_sk (fun z => hqp z.symm), g5 25 (by decide) (by decide) (by decide) (by decide), fo 25 (by omega)]; exact w3
      · have hi : i < nT y + 1 := hi
        refine ⟨?_, ?_, ?_⟩
        · rw [b2 26 (by decide) (by decide) (by decide), g5 26 (by decide) (by decide) (by decide) (by decide), f26]
          show _ = nI (itx (addI y it) i).2.1
          by_cases hiK : i = nT y
          · rw [if_pos hiK, hiK, addI_s]
          · rw [if_neg hiK, addI_n _ _ hiK]; exact (s7 i (show i < nT y by omega)).1
        · rw [b2 27 (by decide) (by decide) (by decide), b2 28 (by decide) (by decide) (by decide), g5 27 (by decide) (by decide) (by decide) (by decide), g5 28 (by decide) (by decide) (by decide) (by decide), f27, f28]
          show (itx (addI y it) i).2.1 ≠ 0 → _ = nI (itx (addI y it) i).2.2.1 ∧ _ = nI (itx (addI y it) i).2.2.2
          by_cases hiK : i = nT y
          · rw [if_pos hiK, if_pos hiK, hiK, addI_s]
            exact fun hk => ⟨(hv hk).1, by rw [(hv hk).2]⟩
          · rw [if_neg hiK, if_neg hiK, addI_n _ _ hiK]; exact (s7 i (show i < nT y by omega)).2.1
        · rw [b2 29 (by decide) (by decide) (by decide)]; exact g7 i hi
      · rw [b2 30 (by decide) (by decide) (by decide), g5 30 (by decide) (by decide) (by decide) (by decide), fo 30 (by omega)]; exact s8 j hj
      · rw [gl_si, g4, fl]; exact u4
    unfold J_X9_readItem_211
    refine ⟨hL2.1, e 25, hL2.r 25 rfl, 20, hL2.k 25 rfl, hvp, ?_⟩
    rw [clN (show it.1 < 2147483648 by omega)]
    rw [show (0 : Int32) = nI 0 from rfl, nI_leI (by omega) (by decide)]
    exact ⟨fun z => hz (by omega) _ hfin, fun z => hr (by omega) _ hfin⟩
  have a22 : ∀ k, k ≠ 22 → gi (si S a 22 (nI (nT y + 1))) a k = gi S a k := fun k hk => gi_sk hk
  have o22 : ∀ j, 23 ≤ j → j ≤ 30 → ∀ z, gi (si S a 22 (nI (nT y + 1))) (e j) z = gi S (e j) z := fun j j1 j2 z => gi_sa (na j j1 j2)
  refine ⟨hvp, fun hn => ?_, fun hn => ?_⟩
  · rcases lst_c (it := itx y) (p := it.1) (nT y) with ⟨w1, -⟩ | ⟨l, w1, w2, w3, w4⟩
    · exact absurd w1 hn
    rw [w2, clN (show l < 2147483648 by omega)]
    refine ⟨hvp, vinN (by omega) (by decide), fin _ ((fS.wa hC.1.1 _ (by decide)).we hC.1.1 _ (by omega)) (fun k hk => ?_) ?_ rfl (fun j j1 j2 j3 j4 z => ?_) (fun q hq => ?_) (fun i hi => ?_)⟩
    · rw [gi_sa (Ne.symm (na 29 (by decide) (by decide)))]; exact a22 k hk
    · rw [gi_sa (Ne.symm (na 29 (by decide) (by decide)))]; exact gi_ss
    · rw [gi_sa (ne j 29 j1 j2 (by decide) (by decide) j4)]; exact o22 j j1 j2 z
    · rw [gi_sa (ne 24 29 (by decide) (by decide) (by decide) (by decide) (by decide)), o22 24 (by decide) (by decide), fo 24 (by omega), addI_24 _ _ _ (by omega), (s6 q hq).2.1]
      by_cases hm : nxt (itx y) q (nT y) 0 = -1
      · rw [if_pos hm, if_neg (fun z => ?_)]
        · exact hm
        · rw [← z] at hm
          exact (nxt_iff (nT y) 0 (by omega)).mp hm l (Nat.zero_le _) (by omega) w3
      · rw [if_neg hm]
    · by_cases hiK : i = nT y
      · rw [gi_sk (by omega), o22 29 (by decide) (by decide), f29, if_pos hiK, hiK, Nat.sub_self]; rfl
      · have hiK2 : i < nT y := by omega
        rw [addI_n _ _ hiK, addI_29 _ _ hiK2 _ (by omega)]
        by_cases hil : i = l
        · subst hil
          rw [gi_ss, w3, if_pos ((nxt_iff _ _ (by omega)).mpr (fun j j1 j2 => w4 j (by omega) (by omega))), if_pos rfl]
        · rw [gi_sk hil, o22 29 (by decide) (by decide), f29, if_neg hiK, (s7 i hiK2).2.2]
          show nxt (itx y) (itx y i).1 (nT y - (i + 1)) (i + 1) = _
          by_cases hm : nxt (itx y) (itx y i).1 (nT y - (i + 1)) (i + 1) = -1
          · rw [if_pos hm, if_neg (fun z => ?_)]
            · exact hm
            · have hnx := (nxt_iff _ _ (by omega)).mp hm
              by_cases hlt : i < l
              · exact hnx l (by omega) (by omega) (by rw [← z]; exact w3)
              · exact w4 i (by omega) (by omega) z.symm
          · rw [if_neg hm]
  · have hno : ∀ i, i < nT y → (itx y i).1 ≠ it.1 := by
      rcases lst_c (it := itx y) (p := it.1) (nT y) with ⟨w1, w2⟩ | ⟨l, w1, w2, w3, w4⟩
      · exact w2
      · rw [w2] at hn; exact absurd hn (nI_nm (by omega))
    have hL0 := hC.L fS
    refine ⟨e 24, hL.r 24 rfl, 20, hL.k 24 rfl, hvp, fin _ ((fS.wa hC.1.1 _ (by decide)).we hC.1.1 _ (by omega)) (fun k hk => ?_) ?_ rfl (fun j j1 j2 j3 j4 z => ?_) (fun q hq => ?_) (fun i hi => ?_)⟩
    · rw [gi_sa (Ne.symm (na 24 (by decide) (by decide)))]; exact a22 k hk
    · rw [gi_sa (Ne.symm (na 24 (by decide) (by decide)))]; exact gi_ss
    · rw [gi_sa (ne j 24 j1 j2 (by decide) (by decide) j3)]; exact o22 j j1 j2 z
    · rw [addI_24 _ _ _ (by omega)]
      by_cases hqp : q = it.1
      · rw [hqp, gi_ss, if_pos ((nxt_iff _ _ (by omega)).mpr (fun i _ h2 => hno i (by omega))), if_pos rfl]
      · rw [gi_sk hqp, o22 24 (by decide) (by decide), fo 24 (by omega), (s6 q hq).2.1]
        by_cases hm : nxt (itx y) q (nT y) 0 = -1
        · rw [if_pos hm, if_neg (fun z => hqp z.symm)]; exact hm
        · rw [if_neg hm]
    · rw [gi_sa (ne 29 24 (by decide) (by decide) (by decide) (by decide) (by decide)), o22 29 (by decide) (by decide), f29]
      by_cases hiK : i = nT y
      · rw [if_pos hiK, hiK, Nat.sub_self]; rfl
      · have hiK2 : i < nT y := by omega
        rw [if_neg hiK, addI_n _ _ hiK, addI_29 _ _ hiK2 _ (by omega), (s7 i hiK2).2.2]
        show nxt (itx y) (itx y i).1 (nT y - (i + 1)) (i + 1) = _
        by_cases hm : nxt (itx y) (itx y i).1 (nT y - (i + 1)) (i + 1) = -1
        · rw [if_pos hm, if_neg (fun z => hno i hiK2 z.symm)]; exact hm
        · rw [if_neg hm]
end ADD9
