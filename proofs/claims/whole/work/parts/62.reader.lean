/-! reader -/
def rlN (rl : RLT) (r : Nat) : RLT := (rl.1 + 1, fun i => if i = rl.1 then (r, 0, (fun _ => 0), (fun _ => -1)) else rl.2 i)
theorem rlN_s (rl : RLT) (r : Nat) : (rlN rl r).2 rl.1 = (r, 0, (fun _ => 0), (fun _ => -1)) := if_pos rfl
theorem rlN_n (rl : RLT) (r : Nat) {i : Nat} (h : i ≠ rl.1) : (rlN rl r).2 i = rl.2 i := if_neg h
def oReader (g : G1) (rl : RLT) (x : Int32) : Int32 × RLT × Int32 := if ¬ stn g.1 x then (-2, rl, -2) else if rl.1 = 10 then (-5, rl, -5) else (nI rl.1, rlN rl x.toNatClampNeg, 0)
theorem RLok.newr {n : Nat} {rl : RLT} (h : RLok n rl) (h10 : rl.1 ≠ 10) {r : Nat} (hr : r < n) : RLok n (rlN rl r) := by
  have h1 := h.1
  refine ⟨show rl.1 + 1 ≤ 10 by omega, fun i hi => ?_⟩
  have hi : i < rl.1 + 1 := hi
  by_cases hir : i = rl.1
  · subst hir
    rw [rlN_s]
    exact ⟨hr, Nat.zero_le _, fun k hk => absurd hk (Nat.not_lt_zero _)⟩
  · rw [rlN_n _ _ hir]; exact h.2 i (by omega)
theorem oReader_ok {g : G1} {rl : RLT} {x : Int32} (hn : RLok g.1.1 rl) : RLok g.1.1 (oReader g rl x).2.1 := by
  unfold oReader
  split
  · exact hn
  · split
    · exact hn
    · rename_i q1 q2
      have q1 := Classical.not_not.mp q1
      exact hn.newr q2 (by rw [icl]; have := q1.1; omega)
theorem k8_old {rc i : Nat} (h : i < 26 + 3 * rc) : k8 (rc + 1) i = k8 rc i := by
  unfold k8
  by_cases h1 : i < 26
  · rw [if_pos h1, if_pos h1]
  · rw [if_neg h1, if_neg h1, if_pos (by omega), if_pos h]
theorem k8_new {rc i : Nat} (h : k8 (rc + 1) i ≠ none) : (i < 26 + 3 * rc ∧ k8 rc i ≠ none) ∨ i = 26 + 3 * rc ∨ i = 27 + 3 * rc ∨ i = 28 + 3 * rc := by
  by_cases h1 : i < 26 + 3 * rc
  · exact Or.inl ⟨h1, by rw [← k8_old h1]; exact h⟩
  · rcases k8_none h with h2 | ⟨j, hj, h2⟩ <;> omega
section READ8
variable {σ σ' σ0 : Hp} {c : Nat → Nat} {s : Nat} {g : G1} {t : G2} {sh : SHT} {rl : RLT} {sc : SCT}
theorem T8.newr (h : T8 σ c s g t sh rl sc) (hr : rl.1 < 10) {q8 q1 q2 r : Nat} (f8 : gk σ q8 = none) (f1 : gk σ q1 = none) (f2 : gk σ q2 = none) (n81 : q1 ≠ q8) (n82 : q2 ≠ q8) (n12 : q2 ≠ q1) (hA : Ag (fun b => b = c 0) (fun b => b = c 7) σ σ') (k8' : gk σ' q8 = some (3, 0)) (k1' : gk σ' q1 = some (1, 0)) (k2' : gk σ' q2 = some (10, 600)) (g8 : gr σ' q8 1 = some q1) (g1 : gr σ' q1 0 = some q2) (i8 : gi σ' q8 0 = nI r) (i1 : gi σ' q1 1 = 0) (g7 : ∀ j, gr σ' (c 7) j = if j = rl.1 then some q8 else gr σ (c 7) j) (i0 : ∀ k, gi σ' (c 0) k = if k = 5 then nI (rl.1 + 1) else gi σ (c 0) k) :
    ∃ c' : Nat → Nat, c' 0 = c 0 ∧ T8 σ' c' s g t sh (rlN rl r) sc ∧ ∀ i, k8 (rl.1 + 1) i ≠ none → S8 c rl.1 (c' i) ∨ gk σ (c' i) = none := by
  obtain ⟨c', hold, e8, e1, e2⟩ : ∃ c' : Nat → Nat, (∀ i, i < 26 + 3 * rl.1 → c' i = c i) ∧ c' (26 + 3 * rl.1) = q8 ∧ c' (27 + 3 * rl.1) = q1 ∧ c' (28 + 3 * rl.1) = q2 :=
    ⟨fun i => if i = 26 + 3 * rl.1 then q8 else if i = 27 + 3 * rl.1 then q1 else if i = 28 + 3 * rl.1 then q2 else c i, fun i hi => by
      show (if i = _ then _ else if i = _ then _ else if i = _ then _ else _) = _
      rw [if_neg (by omega), if_neg (by omega), if_neg (by omega)], if_pos rfl, by
      show (if _ = _ then _ else if _ = _ then _ else if _ = _ then _ else _) = _
      rw [if_neg (by omega), if_pos rfl], by
      show (if _ = _ then _ else if _ = _ then _ else if _ = _ then _ else _) = _
      rw [if_neg (by omega), if_neg (by omega), if_pos rfl]⟩
  obtain ⟨h1, h2, h3, h5, h6, h7, h8⟩ := id h
  have hs8 : s = 8 ∨ s = 14 := h1.2.2.2.1.1
  have h26 : ∀ i, i < 26 → c' i = c i := fun i hi => hold i (by omega)
  have kk : ∀ i, i < 26 → k8 rl.1 i ≠ none := fun i hi => k8_n hi
  have ne0 : ∀ i, k8 rl.1 i ≠ none → i ≠ 0 → ¬ c i = c 0 := fun i hi h0 z => h0 (h1.2.1 _ _ hi (kk 0 (by decide)) z)
  have ne7 : ∀ i, k8 rl.1 i ≠ none → i ≠ 7 → ¬ c i = c 7 := fun i hi h0 z => h0 (h1.2.1 _ _ hi (kk 7 (by decide)) z)
  have n4 : ∀ q, gk σ q = some (4, 0) → ¬ q = c 0 := fun q hq => h1.n4 (kk 0 (by decide)) hq
  have hkn := k8_rd (show rl.1 < rl.1 + 1 by omega)
  have hgk : ∀ i, k8 rl.1 i ≠ none → gk σ' (c i) = gk σ (c i) := fun i hi => (hA _ (h1.some hi)).1
  have hgr : ∀ i, k8 rl.1 i ≠ none → i ≠ 7 → ∀ k, gr σ' (c i) k = gr σ (c i) k := fun i hi h7 => (hA _ (h1.some hi)).2.2 (ne7 i hi h7)
  have hgi : ∀ i, k8 rl.1 i ≠ none → i ≠ 0 → ∀ k, gi σ' (c i) k = gi σ (c i) k := fun i hi h0 k => ((hA _ (h1.some hi)).2.1 (ne0 i hi h0) k).1
  have old8 : ∀ i, k8 rl.1 i ≠ none → c i ≠ q8 := fun i hi z => h1.some hi (by rw [z]; exact f8)
  have old1 : ∀ i, k8 rl.1 i ≠ none → c i ≠ q1 := fun i hi z => h1.some hi (by rw [z]; exact f1)
  have old2 : ∀ i, k8 rl.1 i ≠ none → c i ≠ q2 := fun i hi z => h1.some hi (by rw [z]; exact f2)
  have ht : ∀ u ∈ r8, u.1 < 26 ∧ u.2.2 < 26 ∧ u.1 ≠ 7 := by decide +kernel
  refine ⟨c', h26 0 (by decide), ⟨⟨fun i u hu => ?_, fun i j hi hj hij => ?_, fun u hu => ?_, ⟨hs8, ?_, ?_⟩, fun j hj => ?_, fun j hj hj10 => ?_, show rl.1 + 1 ≤ 10 by omega⟩, ?_, ?_, ?_, ?_, ?_, ?_⟩, fun i hi => ?_⟩
  · have hu : k8 (rl.1 + 1) i = some u := hu
    rcases k8_new (show k8 (rl.1 + 1) i ≠ none by rw [hu]; exact fun z => by cases z) with ⟨hi, hn⟩ | rfl | rfl | rfl
    · rw [hold i hi, hgk i hn]
      rw [k8_old hi] at hu
      exact h1.1 i u hu
    · rw [hkn.1] at hu; cases hu; rw [e8]; exact k8'
    · rw [hkn.2.1] at hu; cases hu; rw [e1]; exact k1'
    · rw [hkn.2.2] at hu; cases hu; rw [e2]; exact k2'
  · rcases k8_new hi with ⟨hi, hni⟩ | rfl | rfl | rfl <;> rcases k8_new hj with ⟨hj, hnj⟩ | rfl | rfl | rfl
    · rw [hold i hi, hold j hj] at hij; exact h1.2.1 i j hni hnj hij
    · rw [hold i hi, e8] at hij; exact absurd hij (old8 i hni)
    · rw [hold i hi, e1] at hij; exact absurd hij (old1 i hni)
    · rw [hold i hi, e2] at hij; exact absurd hij (old2 i hni)
    · rw [hold j hj, e8] at hij; exact absurd hij.symm (old8 j hnj)
    · rfl
    · rw [e8, e1] at hij; exact absurd hij.symm n81
    · rw [e8, e2] at hij; exact absurd hij.symm n82
    · rw [hold j hj, e1] at hij; exact absurd hij.symm (old1 j hnj)
    · rw [e1, e8] at hij; exact absurd hij n81
    · rfl
    · rw [e1, e2] at hij; exact absurd hij.symm n12
    · rw [hold j hj, e2] at hij; exact absurd hij.symm (old2 j hnj)
    · rw [e2, e8] at hij; exact absurd hij n82
    · rw [e2, e1] at hij; exact absurd hij n12
    · rfl
  · obtain ⟨u1, u2, u3⟩ := ht u hu
    rw [h26 _ u1, h26 _ u2, hgr _ (kk _ u1) u3]
    exact h1.2.2.1 u hu
  · rw [h26 0 (by decide), h26 s (by omega), hgr 0 (kk 0 (by decide)) (by decide)]
    exact h1.2.2.2.1.2.1
  · rw [h26 0 (by decide), h26 (22 - s) (by omega), hgr 0 (kk 0 (by decide)) (by decide)]
    exact h1.2.2.2.1.2.2
  · have hj : j < rl.1 + 1 := hj
    rw [h26 7 (by decide), g7]
    by_cases hjr : j = rl.1
    · subst hjr
      rw [if_pos rfl, e8, e1, e2]
      exact ⟨rfl, g8, g1⟩
    · have hjl : j < rl.1 := by omega
      have kj := k8_n2 hjl
      rw [if_neg hjr, hold _ (show 26 + 3 * j < 26 + 3 * rl.1 by omega), hold _ (show 27 + 3 * j < 26 + 3 * rl.1 by omega), hold _ (show 28 + 3 * j < 26 + 3 * rl.1 by omega), hgr _ kj.1 (by omega), hgr _ kj.2.1 (by omega)]
      exact h1.2.2.2.2.1 j hjl
  · have hj : rl.1 + 1 ≤ j := hj
    rw [h26 7 (by decide), g7, if_neg (by omega)]
    exact h1.2.2.2.2.2.1 j (by omega) hj10
  · rw [h26 1 (by decide), h26 2 (by decide)]
    exact h2.ag hA (ne0 1 (kk 1 (by decide)) (by decide)) (ne7 1 (kk 1 (by decide)) (by decide)) (ne7 2 (kk 2 (by decide)) (by decide)) n4
  · rw [h26 3 (by decide), h26 4 (by decide)]
    exact h3.ag hA (ne0 3 (kk 3 (by decide)) (by decide)) (ne7 3 (kk 3 (by decide)) (by decide)) (ne7 4 (kk 4 (by decide)) (by decide)) n4
  · have := h5.ag h1 hA (ne0 5 (kk 5 (by decide)) (by decide)) (ne0 6 (kk 6 (by decide)) (by decide))
    unfold TP8 at *
    rw [h26 5 (by decide), h26 6 (by decide)]
    exact this
  · have := h6.ag h1 hA (fun k hk => ne0 (s + k) (kk _ (by omega)) (by omega))
    unfold SH8 at *
    rw [h26 s (by omega), h26 (s + 1) (by omega), h26 (s + 2) (by omega), h26 (s + 3) (by omega), h26 (s + 4) (by omega), h26 (s + 5) (by omega)]
    exact this
  · intro j hj
    have hj : j < rl.1 + 1 := hj
    by_cases hjr : j = rl.1
    · subst hjr
      rw [e8, e1, rlN_s]
      exact ⟨i8, i1, fun k hk => absurd hk (Nat.not_lt_zero _)⟩
    · have hjl : j < rl.1 := by omega
      have kj := k8_n2 hjl
      rw [hold _ (show 26 + 3 * j < 26 + 3 * rl.1 by omega), hold _ (show 27 + 3 * j < 26 + 3 * rl.1 by omega), hold _ (show 28 + 3 * j < 26 + 3 * rl.1 by omega), rlN_n _ _ hjr, hgi _ kj.1 (by omega), hgi _ kj.2.1 (by omega)]
      obtain ⟨w1, w2, w3⟩ := h7 j hjl
      exact ⟨w1, w2, fun k hk => by rw [hgi _ kj.2.2 (by omega)]; exact w3 k hk⟩
  · obtain ⟨w1, w2, w3, w4⟩ := h8
    unfold SC8
    rw [h26 0 (by decide), i0, i0, i0, i0, if_pos rfl, if_neg (by decide), if_neg (by decide), if_neg (by decide)]
    exact ⟨rfl, w2, w3, w4⟩
  · rcases k8_new hi with ⟨hi, hni⟩ | rfl | rfl | rfl
    · exact Or.inl ⟨i, hni, hold i hi⟩
    · exact Or.inr (by rw [e8]; exact f8)
    · exact Or.inr (by rw [e1]; exact f1)
    · exact Or.inr (by rw [e2]; exact f2)
theorem T8_reader {x : Int32} {post : Int32 → Hp → Prop} (h : T8 σ c s g t sh rl sc) (hp : ∀ σ' c', c' 0 = c 0 → T8 σ' c' s g t sh (oReader g rl x).2.1 (sc.1, sc.2.1, (oReader g rl x).2.2) → Ag (S8 c rl.1) (S8 c rl.1) σ σ' → (∀ i, k8 (oReader g rl x).2.1.1 i ≠ none → S8 c rl.1 (c' i) ∨ gk σ (c' i) = none) → post (oReader g rl x).1 σ') : P_X8_reader (c 0) x σ post := by
  have s0 : S8 c rl.1 (c 0) := ⟨0, k8_n (by decide), rfl⟩
  have s7 : S8 c rl.1 (c 7) := ⟨7, k8_n (by decide), rfl⟩
  have hL := h.1
  have k0 : gk σ (c 0) = some (8, 0) := hL.k 0 (by decide) rfl
  have h10 : rl.1 ≤ 10 := hL.2.2.2.2.2.2
  have i5 : gi σ (c 0) 5 = nI rl.1 := h.2.2.2.2.2.2.1
  unfold P_X8_reader
  refine ⟨k0, c 1, hL.r 0 0 1 (by decide), hL.k 1 (by decide) rfl, X5_standing h.2.1 ?_⟩
  by_cases hs : stn g.1 x
  rotate_left
  · rw [if_neg hs]
    have he : oReader g rl x = (-2, rl, -2) := by unfold oReader; rw [if_pos hs]
    rw [he] at hp
    exact ⟨fun _ => ⟨k0, X8_refused hL (hp _ c rfl (h.stat _) (Ag.rf.wi _ (Or.inl s0)) (fun i hi => Or.inl ⟨i, hi, rfl⟩))⟩, fun b z => by cases z⟩
  obtain ⟨q, hq, hw⟩ := h.2.1.row hs.1
  rw [if_pos hs, hq]
  refine ⟨fun z => (by cases z), fun b hb => ⟨k0, fun z => ?_, fun _ => ⟨c 7, hL.r 0 3 7 (by decide), 10, hL.k 7 (by decide) rfl, fun z => ?_, fun z => ?_⟩⟩⟩
  · rw [i5] at z; exact absurd z (nI_pos (by omega))
  rotate_left
  · have he : oReader g rl x = (-5, rl, -5) := by
      unfold oReader
      rw [if_neg (fun z => z hs), if_pos]
      rw [i5, ilt, ofn, nIi (by omega), nIi (by omega)] at z; omega
    rw [he] at hp
    exact X8_refused hL (hp _ c rfl (h.stat _) (Ag.rf.wi _ (Or.inl s0)) (fun i hi => Or.inl ⟨i, hi, rfl⟩))
  rw [i5, ilt, ofn, nIi (by omega), nIi (by omega)] at z
  have he : oReader g rl x = (nI rl.1, rlN rl x.toNatClampNeg, 0) := by unfold oReader; rw [if_neg (fun z => z hs), if_neg (by omega)]
  rw [he] at hp
  intro q8 f8
  unfold P_X3_init
  intro q1 f1'
  unfold P_X1_init
  intro q2 f2'
  have n81 : q1 ≠ q8 := fun z => by rw [z, gk_nw, if_pos rfl] at f1'; cases f1'
  have f1 : gk σ q1 = none := by rwa [gk_nw, if_neg n81] at f1'
  have n12 : q2 ≠ q1 := fun z => by rw [z, gk_nw, if_pos rfl] at f2'; cases f2'
  have n82 : q2 ≠ q8 := fun z => by rw [gk_nw, if_neg n12, z, gk_nw, if_pos rfl] at f2'; cases f2'
  have f2 : gk σ q2 = none := by rwa [gk_nw, if_neg n12, gk_nw, if_neg n82] at f2'
  have o : ∀ i, i < 26 → c i ≠ q8 ∧ c i ≠ q1 ∧ c i ≠ q2 := fun i hi => ⟨fun z => hL.some (k8_n hi) (by rw [z]; exact f8), fun z => hL.some (k8_n hi) (by rw [z]; exact f1), fun z => hL.some (k8_n hi) (by rw [z]; exact f2)⟩
  have gk1 : ∀ b, gk (nw (nw (nw σ q8 3 0) q1 1 0) q2 10 600) b = if b = q2 then some (10, 600) else if b = q1 then some (1, 0) else if b = q8 then some (3, 0) else gk σ b := fun b => by rw [gk_nw, gk_nw, gk_nw]
  have gk2 : ∀ b, b ≠ q8 → b ≠ q1 → b ≠ q2 → gk (nw (nw (nw σ q8 3 0) q1 1 0) q2 10 600) b = gk σ b := fun b b8 b1 b2 => by rw [gk1, if_neg b2, if_neg b1, if_neg b8]
  have kq2 : gk (nw (nw (nw σ q8 3 0) q1 1 0) q2 10 600) q2 = some (10, 600) := by rw [gk1, if_pos rfl]
  have kq1 : gk (nw (nw (nw σ q8 3 0) q1 1 0) q2 10 600) q1 = some (1, 0) := by rw [gk1, if_neg (Ne.symm n12), if_pos rfl]
  have kq8 : gk (nw (nw (nw σ q8 3 0) q1 1 0) q2 10 600) q8 = some (3, 0) := by rw [gk1, if_neg (Ne.symm n82), if_neg (Ne.symm n81), if_pos rfl]
  have hA0 : Ag (fun b => b = c 0) (fun b => b = c 7) σ (nw (nw (nw σ q8 3 0) q1 1 0) q2 10 600) := ((Ag.rf.new f8).new f1').new f2'
  rw [i5, clN (by omega), nI_1]
  refine ⟨kq1, kq8, 10, ?_, vinN (by omega) (by decide), kq8, ?_, ?_⟩
  · show gk (nw (nw (nw σ q8 3 0) q1 1 0) q2 10 600) (c 7) = _
    rw [gk2 _ (o 7 (by decide)).1 (o 7 (by decide)).2.1 (o 7 (by decide)).2.2]
    exact hL.k 7 (by decide) rfl
  · show gk (nw (nw (nw σ q8 3 0) q1 1 0) q2 10 600) (c 0) = _
    rw [gk2 _ (o 0 (by decide)).1 (o 0 (by decide)).2.1 (o 0 (by decide)).2.2]
    exact k0
  generalize hσ1 : nw (nw (nw σ q8 3 0) q1 1 0) q2 10 600 = σ1 at *
  have hi1 : ∀ b k, b ≠ q8 → b ≠ q1 → b ≠ q2 → gi σ1 b k = gi σ b k := fun b k b8 b1 b2 => by rw [← hσ1, gi_nw, if_neg b2, gi_nw, if_neg b1, gi_nw, if_neg b8]
  have hr1 : ∀ b k, b ≠ q8 → b ≠ q1 → b ≠ q2 → gr σ1 b k = gr σ b k := fun b k b8 b1 b2 => by rw [← hσ1, gr_nw, if_neg b2, gr_nw, if_neg b1, gr_nw, if_neg b8]
  clear hσ1
  generalize hσF : si (sr (si (sr (sl (si (sr σ1 q1 0 (some q2)) q1 1 (0 : Int32)) q1 2 (0 : Int64)) q8 1 (some q1)) q8 0 x) (c 7) rl.1 (some q8)) (c 0) 5 (nI (rl.1 + 1)) = σF
  have kF : ∀ b, gk σF b = gk σ1 b := fun b => by rw [← hσF]; rfl
  obtain ⟨o08, o01, o02⟩ := o 0 (by decide)
  obtain ⟨o78, o71, o72⟩ := o 7 (by decide)
  have n07 : c 0 ≠ c 7 := hL.ne (by decide) (by decide) (by decide)
  have hA : Ag (fun b => b = c 0) (fun b => b = c 7) σ σF := by
    rw [← hσF]
    exact ((((((((hA0.wr _ (Or.inr f1)).wi _ (Or.inr f1)).wl _ (Or.inr f1)).wr _ (Or.inr f8)).wi _ (Or.inr f8)).wr _ (Or.inl rfl)).wi _ (Or.inl rfl)))
  obtain ⟨c', h0, h', hc⟩ := h.newr (by omega) f8 f1 f2 n81 n82 n12 hA (r := x.toNatClampNeg) (by rw [kF]; exact kq8) (by rw [kF]; exact kq1) (by rw [kF]; exact kq2)
    (by rw [← hσF, gr_si, gr_sa (Ne.symm o78), gr_si, gr_sr, if_pos ⟨rfl, rfl⟩])
    (by rw [← hσF, gr_si, gr_sa (Ne.symm o71), gr_si, gr_sa n81, gr_sl, gr_si, gr_sr, if_pos ⟨rfl, rfl⟩])
    (by rw [← hσF, gi_sa (Ne.symm o08), gi_sr, gi_ss, nI_cl hs.1.1])
    (by rw [← hσF, gi_sa (Ne.symm o01), gi_sr, gi_sa n81, gi_sr, gi_sl, gi_ss])
    (fun j => by
      rw [← hσF, gr_si, gr_sr]
      by_cases hj : j = rl.1
      · rw [if_pos ⟨rfl, hj⟩, if_pos hj]
      · rw [if_neg (fun z => hj z.2), if_neg hj, gr_si, gr_sa o78, gr_sl, gr_si, gr_sa o71, hr1 _ _ o78 o71 o72])
    (fun k => by
      rw [← hσF, gi_si]
      by_cases hk : k = 5
      · rw [if_pos ⟨rfl, hk⟩, if_pos hk]
      · rw [if_neg (fun z => hk z.2), if_neg hk, gi_sr, gi_sa o08, gi_sr, gi_sl, gi_sa o01, gi_sr, hi1 _ _ o08 o01 o02])
  have h5 := h'.stat 0
  rw [h0] at h5
  refine ⟨?_, hp _ c' h0 h5 ((hA.mono (fun b hb => by rw [hb]; exact s0) (fun b hb => by rw [hb]; exact s7)).wi _ (Or.inl s0)) hc⟩
  rw [kF, gk2 _ o08 o01 o02]
  exact k0
end READ8
section READ9
variable {σ σ' σ0 : Hp} {a : Nat} {e : Nat → Nat} {g : G1} {t : G2} {sh : SHT} {rl : RLT} {sc : SCT}
theorem T9_reader {x : Int32} {post : Int32 → Hp → Prop} (h : T9 σ a e g t sh rl sc) (hn : RLok g.1.1 rl) (hp : ∀ σ', T9 σ' a e g t sh (oReader g rl x).2.1 (sc.1, sc.2.1, (oReader g rl x).2.2) → SK σ σ' → Fr (W9 a e) σ σ' → post (oReader g rl x).1 σ') : P_X9_reader a x σ post := by
  unfold P_X9_reader
  have hT := h.thr 0
  have hs : SK σ (si σ a 0 0) := SK.wi _ _ _
  have hf : Fr (W9 a e) σ (si σ a 0 0) := Fr.rf.ob _ _
  generalize si σ a 0 0 = σ1 at hT hs hf ⊢
  have h10 := hn.1
  obtain ⟨q1, q2, q3⟩ := hT.2.2.2.2.2.1
  refine ⟨h.1.1, hT.isRow (fun hst => ⟨fun _ => ⟨hT.1.1, ?_⟩, fun z => absurd z (by decide)⟩) (fun hst => ⟨fun z => absurd rfl z, fun _ => ⟨hT.1.1, ?_⟩⟩)⟩
  rotate_left
  · have he : oReader g rl x = (-2, rl, -2) := by unfold oReader; rw [if_pos hst]
    rw [he] at hp
    exact T9_told hT hs hf hp
  rw [q1, show (10 : Int32) = nI 10 from rfl, nI_k (by omega) (by omega)]
  refine ⟨fun hne => ?_, fun he10 => ?_⟩
  rotate_left
  · have he : oReader g rl x = (-5, rl, -5) := by unfold oReader; rw [if_neg (fun z => z hst), if_pos he10]
    rw [he] at hp
    exact T9_told hT hs hf hp
  have he : oReader g rl x = (nI rl.1, rlN rl x.toNatClampNeg, 0) := by unfold oReader; rw [if_neg (fun z => z hst), if_neg hne]
  rw [he] at hp
  refine ⟨e 49, hT.1.r 49 rfl, 10, hT.1.k 49 rfl, vinN (by omega) (by decide), ?_⟩
  rw [clN (by omega), nI_1, nI_pred]
  have na : ∀ j, k9 j ≠ none → e j ≠ a := hT.1.na
  have hT2 : T9 (si (si σ1 (e 49) rl.1 x) a 48 (nI (rl.1 + 1))) a e g t sh (rlN rl x.toNatClampNeg) sc := by
    obtain ⟨s1, s2, s3⟩ := hT.2.2.2.2.2.2
    have nn : ∀ j, k9 j ≠ none → j ≠ 49 → ∀ k, gi (si (si σ1 (e 49) rl.1 x) a 48 (nI (rl.1 + 1))) (e j) k = gi σ1 (e j) k := fun j hj h4 k => by
      rw [gi_sa (na j hj), gi_sa (hT.1.ne hj (by decide) h4)]
    have aa : ∀ k, k ≠ 48 → gi (si (si σ1 (e 49) rl.1 x) a 48 (nI (rl.1 + 1))) a k = gi σ1 a k := fun k hk => by
      rw [gi_sk hk, gi_sa (Ne.symm (na 49 (by decide)))]
    refine hT.rds ((SK.wi _ _ _).tr (SK.wi _ _ _)) (fun k hk => aa k (by simp at hk; omega)) (fun j hj k => nn j (k9_r j hj).1 (by have := (k9_r j hj).2; omega) k) ⟨gi_ss, fun i hi => ?_, fun i hi hi10 => ?_⟩ ⟨by rw [aa 53 (by decide)]; exact s1, by rw [aa 38 (by decide)]; exact s2, by rw [aa 1 (by decide)]; exact s3⟩
    · have hi : i < rl.1 + 1 := hi
      rw [nn 50 (by decide) (by decide), gi_sa (na 49 (by decide))]
      by_cases hir : i = rl.1
      · subst hir
        rw [rlN_s, gi_ss]
        exact ⟨(nI_cl hst.1.1).symm, q3 rl.1 (Nat.le_refl _) (by omega), fun k hk => absurd hk (Nat.not_lt_zero _)⟩
      · rw [rlN_n _ _ hir, gi_sk hir]
        obtain ⟨w1, w2, w3⟩ := q2 i (by omega)
        exact ⟨w1, w2, fun k hk => by rw [nn 51 (by decide) (by decide), nn 52 (by decide) (by decide)]; exact w3 k hk⟩
    · have hi : rl.1 + 1 ≤ i := hi
      rw [nn 50 (by decide) (by decide)]
      exact q3 i (by omega) hi10
  refine T9_told hT2 (hs.tr ((SK.wi _ _ _).tr (SK.wi _ _ _))) ((hf.wi _ (Or.inr ⟨49, by decide, rfl⟩)).ob _ _) (fun σ' h' hs' hf' => hp σ' ?_ hs' hf')
  rw [if_pos (by rw [nIi (by omega)]; omega)] at h'
  exact h'
end READ9
section CALLS
variable {σ : Hp} {a8 a9 : Nat} {K : Hp → Prop}
theorem call_reader {x1 : Int32} (h : TIE a8 a9 σ) (hK : ∀ σ', TIE a8 a9 σ' → K σ') {Q8 : Int32 → Hp → Prop} (hQ : ∀ r1 σ1, (gk σ1 a9 = some (9, 0) ∧ P_X9_reader a9 x1 σ1 (fun r2 σ2 => (r1 = r2 → K σ2) ∧ (¬ r1 = r2 → False))) → Q8 r1 σ1) : P_X8_reader a8 x1 σ Q8 := by
  obtain ⟨c, e, s, g, t, sh, rl, sc, rfl, hT8, hT9, hdis, hg, hsh, hrl⟩ := h
  exact bothG (P9 := fun σ1 post => P_X9_reader a9 x1 σ1 post) hT8 hT9 hdis hg hsh (oReader_ok (x := x1) hrl) (fun post hp => T8_reader hT8 (fun σ' c' h0 h' hA hc => hp σ' c' s h0 h' hA hc)) (fun σ1 post h9 hp => T9_reader h9 hrl hp) hK hQ
end CALLS
