/-! the tape: feed, end -/
theorem byt_k (x : Int32) (u : UInt32) (w : Int32) (n : Nat) (hu : (u.toBitVec % 32#32).toNat = n) (hw : (w.toBitVec.smod 32#32).toNat = n) (hn : n ≤ 24) : ((x.toUInt32 >>> u).toInt32 &&& (255 : Int32)) = ((x >>> w) &&& (255 : Int32)) := by
  apply Int32.toBitVec_inj.mp
  rw [Int32.toBitVec_and, Int32.toBitVec_and, Int32.toBitVec_shiftRight]
  rw [show (x.toUInt32 >>> u).toInt32.toBitVec = x.toBitVec >>> (u.toBitVec % 32#32) from rfl]
  rw [show (255 : Int32).toBitVec = 255#32 from rfl]
  apply BitVec.eq_of_getLsbD_eq
  intro i hi
  rw [BitVec.getLsbD_and, BitVec.getLsbD_and, show x.toBitVec.sshiftRight' (w.toBitVec.smod 32) = x.toBitVec.sshiftRight n from by rw [← hw]; rfl]
  by_cases h8 : i < 8
  · have e : (x.toBitVec >>> (u.toBitVec % 32#32)).getLsbD i = x.toBitVec.getLsbD (n + i) := by
      rw [BitVec.ushiftRight_eq', BitVec.getLsbD_ushiftRight, hu]
    rw [e, BitVec.getLsbD_sshiftRight, if_pos (by omega)]
    rw [decide_eq_false (show ¬ 32 ≤ i by omega), Bool.not_false, Bool.true_and]
  · have e : (255#32).getLsbD i = false := by
      have : ∀ i, i < 32 → ¬ i < 8 → (255#32).getLsbD i = false := by decide
      exact this i hi h8
    rw [e, Bool.and_false, Bool.and_false]
/-- a byte more -/
def tpA (t : G2) (b : Int32) : G2 := (t.1 + 1, fun i => if i = t.1 then b else t.2 i)
def btt (x n : Int32) : Int32 := (x >>> (n &&& 31)) &&& (255 : Int32)
def tp4 (t : G2) (x : Int32) : G2 := tpA (tpA (tpA (tpA t (btt x 24)) (btt x 16)) (btt x 8)) (btt x 0)
theorem tp4_1 {t : G2} {x : Int32} : (tp4 t x).1 = t.1 + 4 := rfl
section TAPE8
variable {σ σ' σ0 : Hp} {c : Nat → Nat} {s : Nat} {g : G1} {t : G2} {sh : SHT} {rl : RLT} {sc : SCT}
theorem T8.tape (h : T8 σ c s g t sh rl sc) (hA : Ag (IL c [5, 6]) (fun _ => False) σ σ') {t' : G2} (ht : TP8 σ' c t') : T8 σ' c s g t' sh rl sc := by
  obtain ⟨h1, h2, h3, h5, h6, h7, h8⟩ := h
  have hs8 : s = 8 ∨ s = 14 := h1.2.2.2.1.1
  have n : ∀ i, i < 26 → i ∉ [5, 6] → ¬ IL c [5, 6] (c i) := fun i hi h0 => IL.not h1 (by decide) (k8_n hi) h0
  exact ⟨h1.ag hA (fun i hi hT => hT.elim), h2.ag hA (n 1 (by decide) (by decide)) id id (fun q hq => IL.n4 h1 (by decide) hq), h3.ag hA (n 3 (by decide) (by decide)) id id (fun q hq => IL.n4 h1 (by decide) hq), ht, h6.ag h1 hA (fun k hk => n (s + k) (by omega) (by simp; omega)), h7.ag h1 hA (fun i hi26 hi => IL.not h1 (by decide) hi (by simp; omega)), h8.ag h1 hA (n 0 (by decide) (by decide))⟩
theorem a255 (y : Int32) : 0 ≤ (y &&& (255 : Int32)).toInt := by
  rw [pk_and y 8 (by decide), nIi (by have := Nat.mod_lt y.toBitVec.toNat (show 0 < 2 ^ 8 by decide); omega)]; omega
theorem T8.addB {b : Int32} {post : Hp → Prop} (hb : 0 ≤ b.toInt) (h : T8 σ c s g t sh rl sc) (hA0 : Ag (S8 c rl.1) (S8 c rl.1) σ0 σ) (ht : t.1 < 200) (hp : ∀ σ', T8 σ' c s g (tpA t b) sh rl sc → Ag (S8 c rl.1) (S8 c rl.1) σ0 σ' → post σ') : P_X7_addByte (c 5) b σ post := by
  unfold P_X7_addByte
  obtain ⟨t1, t2, t3⟩ := id h.2.2.2.1
  rw [t1]
  have e : (nI t.1).toInt = (t.1 : Int) := nIi (by omega)
  refine ⟨h.1.k 5 (by decide) rfl, fun z => ?_, fun _ => ⟨c 6, h.1.r 5 0 6 (by decide), 200, h.1.k 6 (by decide) rfl, fun _ => ⟨vinN ht (by decide), ?_⟩, fun z => ?_⟩⟩
  · rw [ilt, e, show (0 : Int32).toInt = 0 by decide] at z; omega
  · rw [clN (show t.1 < 2147483648 by omega), show nI t.1 + (1 : Int32) = nI (t.1 + 1) from nI_1 _]
    have n56 : c 6 ≠ c 5 := h.1.ne (by decide) (by decide) (by decide)
    refine hp _ (h.tape ((Ag.rf.wi _ (Or.inl ⟨6, by decide, rfl⟩)).wi _ (Or.inl ⟨5, by decide, rfl⟩)) ⟨gi_ss, by show t.1 + 1 ≤ 200; omega, fun i hi => ?_⟩) ((hA0.wi _ (Or.inl ⟨6, k8_n (by decide), rfl⟩)).wi _ (Or.inl ⟨5, k8_n (by decide), rfl⟩))
    have hi : i < t.1 + 1 := hi
    rw [gi_sa n56, gi_si]
    show _ = (if i = t.1 then b else t.2 i) ∧ 0 ≤ (if i = t.1 then b else t.2 i).toInt
    by_cases hit : i = t.1
    · rw [if_pos ⟨rfl, hit⟩, if_pos hit]; exact ⟨rfl, hb⟩
    · rw [if_neg (fun z => hit z.2), if_neg hit]; exact t3 i (by omega)
  · rw [ilt, ofn, e, nIi (by decide)] at z; omega
theorem T8.addN {x : Int32} {post : Hp → Prop} (h : T8 σ c s g t sh rl sc) (hA0 : Ag (S8 c rl.1) (S8 c rl.1) σ0 σ) (ht : t.1 + 4 ≤ 200) (hp : ∀ σ', T8 σ' c s g (tp4 t x) sh rl sc → Ag (S8 c rl.1) (S8 c rl.1) σ0 σ' → post σ') : P_X7_addNumber (c 5) x σ post := by
  unfold P_X7_addNumber
  intro I hI
  have k5 : ∀ {τ : Hp} {t' : G2}, T8 τ c s g t' sh rl sc → gk τ (c 5) = some (7, 0) := fun q => q.1.k 5 (by decide) rfl
  refine hI _ _ ⟨fun z => absurd z (by decide), fun _ => ⟨k5 h, T8.addB (a255 _) h hA0 (by omega) (fun σ1 h1 hA1 => ?_)⟩⟩
  refine hI _ _ ⟨fun z => absurd z (by decide), fun _ => ⟨k5 h1, T8.addB (a255 _) h1 hA1 (show t.1 + 1 < 200 by omega) (fun σ2 h2 hA2 => ?_)⟩⟩
  refine hI _ _ ⟨fun z => absurd z (by decide), fun _ => ⟨k5 h2, T8.addB (a255 _) h2 hA2 (show t.1 + 1 + 1 < 200 by omega) (fun σ3 h3 hA3 => ?_)⟩⟩
  refine hI _ _ ⟨fun z => absurd z (by decide), fun _ => ⟨k5 h3, T8.addB (a255 _) h3 hA3 (show t.1 + 1 + 1 + 1 < 200 by omega) (fun σ4 h4 hA4 => ?_)⟩⟩
  refine hI _ _ ⟨fun _ => hp _ ?_ hA4, fun z => absurd (by decide) z⟩
  rw [byt_k x _ (24 &&& 31) 24 (by decide) (by decide) (by decide), byt_k x _ (16 &&& 31) 16 (by decide) (by decide) (by decide), byt_k x _ (8 &&& 31) 8 (by decide) (by decide) (by decide), byt_k x _ (0 &&& 31) 0 (by decide) (by decide) (by decide)] at h4
  exact h4
/-- what feed and end answer, and the tape behind them -/
def oFeed (t : G2) (x1 x2 x3 x4 x5 : Int32) : Int32 × G2 := if t.1 + 20 ≤ 200 then (nI (t.1 + 20), tp4 (tp4 (tp4 (tp4 (tp4 t x1) x2) x3) x4) x5) else (-1, t)
def oEnd (t : G2) (x : Int32) : Int32 × G2 := if 0 ≤ x.toInt ∧ x.toInt ≤ t.1 then (x, (x.toNatClampNeg, t.2)) else (-1, t)
theorem X7_len {post : Int32 → Hp → Prop} (h : T8 σ c s g t sh rl sc) (hp : post (nI t.1) σ) : gk σ (c 0) = some (8, 0) ∧ ∃ b1 : Nat, (gr σ (c 0) 2) = some b1 ∧ gk σ b1 = some (7, 0) ∧ P_X7_length b1 σ post := by
  refine ⟨h.1.k 0 (by decide) rfl, c 5, h.1.r 0 2 5 (by decide), h.1.k 5 (by decide) rfl, h.1.k 5 (by decide) rfl, ?_⟩
  rw [h.2.2.2.1.1]; exact hp
theorem X7_addN {x : Int32} {post : Hp → Prop} (h : T8 σ c s g t sh rl sc) (hA0 : Ag (S8 c rl.1) (S8 c rl.1) σ0 σ) (ht : t.1 + 4 ≤ 200) (hp : ∀ σ', T8 σ' c s g (tp4 t x) sh rl sc → Ag (S8 c rl.1) (S8 c rl.1) σ0 σ' → post σ') : gk σ (c 0) = some (8, 0) ∧ ∃ b1 : Nat, (gr σ (c 0) 2) = some b1 ∧ gk σ b1 = some (7, 0) ∧ P_X7_addNumber b1 x σ post :=
  ⟨h.1.k 0 (by decide) rfl, c 5, h.1.r 0 2 5 (by decide), h.1.k 5 (by decide) rfl, h.addN hA0 ht hp⟩
theorem T8_feed {x1 x2 x3 x4 x5 : Int32} {post : Int32 → Hp → Prop} (h : T8 σ c s g t sh rl sc) (hp : ∀ σ', T8 σ' c s g (oFeed t x1 x2 x3 x4 x5).2 sh rl sc → Ag (S8 c rl.1) (S8 c rl.1) σ σ' → post (oFeed t x1 x2 x3 x4 x5).1 σ') : P_X8_feed (c 0) x1 x2 x3 x4 x5 σ post := by
  unfold P_X8_feed
  have t2 := h.2.2.2.1.2.1
  refine X7_len h ?_
  rw [ile, show nI t.1 + (20 : Int32) = nI (t.1 + 20) from nI_add t.1 20, nIi (by omega), show (200 : Int32).toInt = 200 by decide]
  unfold oFeed at hp
  refine ⟨fun z => ?_, fun z => ?_⟩
  · rw [if_pos (by omega)] at hp
    refine X7_addN h Ag.rf (by omega) (fun σ1 h1 hA1 => X7_addN h1 hA1 (show t.1 + 4 + 4 ≤ 200 by omega) (fun σ2 h2 hA2 => X7_addN h2 hA2 (show t.1 + 4 + 4 + 4 ≤ 200 by omega) (fun σ3 h3 hA3 => X7_addN h3 hA3 (show t.1 + 4 + 4 + 4 + 4 ≤ 200 by omega) (fun σ4 h4 hA4 => X7_addN h4 hA4 (show t.1 + 4 + 4 + 4 + 4 + 4 ≤ 200 by omega) (fun σ5 h5 hA5 => X7_len h5 (hp σ5 h5 hA5))))))
  · rw [if_neg (by omega)] at hp
    exact hp _ h Ag.rf
theorem T8_end {x : Int32} {post : Int32 → Hp → Prop} (h : T8 σ c s g t sh rl sc) (hp : ∀ σ', T8 σ' c s g (oEnd t x).2 sh rl sc → Ag (S8 c rl.1) (S8 c rl.1) σ σ' → post (oEnd t x).1 σ') : P_X8_end (c 0) x σ post := by
  unfold P_X8_end
  obtain ⟨t1, t2, t3⟩ := id h.2.2.2.1
  rw [ilt, show (0 : Int32).toInt = 0 by decide]
  unfold oEnd at hp
  refine ⟨fun z => ?_, fun z => X7_len h ?_⟩
  · rw [if_neg (by omega)] at hp; exact hp _ h Ag.rf
  · rw [ile, nIi (show t.1 < 2147483648 by omega)]
    refine ⟨fun y => ⟨h.1.k 0 (by decide) rfl, c 5, h.1.r 0 2 5 (by decide), h.1.k 5 (by decide) rfl, h.1.k 5 (by decide) rfl, ?_⟩, fun y => ?_⟩
    · rw [if_pos (by omega)] at hp
      rw [t1]
      have ev : (if (0 : Int32) < (if x < nI t.1 then x else nI t.1) then (if x < nI t.1 then x else nI t.1) else (0 : Int32)) = nI x.toNatClampNeg := by
        rw [nI_cl (by omega)]
        have e1 : (if x < nI t.1 then x else nI t.1) = x := by
          by_cases q : x < nI t.1
          · rw [if_pos q]
          · rw [if_neg q]
            rw [ilt, nIi (by omega)] at q
            rw [ieq, nIi (by omega)]; omega
        rw [e1]
        by_cases q : (0 : Int32) < x
        · rw [if_pos q]
        · rw [if_neg q]
          rw [ilt, show (0 : Int32).toInt = 0 by decide] at q
          rw [ieq, show (0 : Int32).toInt = 0 by decide]; omega
      rw [ev]
      have n56 : c 6 ≠ c 5 := h.1.ne (by decide) (by decide) (by decide)
      refine hp _ (h.tape (Ag.rf.wi _ (Or.inl ⟨5, by decide, rfl⟩)) ⟨gi_ss, by show x.toNatClampNeg ≤ 200; rw [icl]; omega, fun i hi => ?_⟩) (Ag.rf.wi _ (Or.inl ⟨5, k8_n (by decide), rfl⟩))
      have hi : i < x.toNatClampNeg := hi
      rw [gi_sa n56]
      exact t3 i (by rw [icl] at hi; omega)
    · rw [if_neg (by omega)] at hp; exact hp _ h Ag.rf
end TAPE8
section TAPE9
variable {σ σ' σ0 : Hp} {a : Nat} {e : Nat → Nat} {g : G1} {t : G2} {sh : SHT} {rl : RLT} {sc : SCT}
theorem T9.tape (h : T9 σ a e g t sh rl sc) (hs : SK σ σ') (hc : ∀ k, k ≠ 33 → gi σ' a k = gi σ a k) (ha : ∀ j, k9 j ≠ none → j ≠ 32 → ∀ k, gi σ' (e j) k = gi σ (e j) k) {t' : G2} (h4 : TP9 σ' a e t') : T9 σ' a e g t' sh rl sc := by
  obtain ⟨h1, h2, h3, -, h5, h6, h7⟩ := h
  have hk : ∀ j ∈ [3, 4, 5, 6, 7, 8, 10, 11, 12, 13, 15, 16, 17, 18, 19, 20, 49, 50, 51, 52], k9 j ≠ none ∧ j ≠ 32 := by decide +kernel
  replace ha : ∀ j ∈ [3, 4, 5, 6, 7, 8, 10, 11, 12, 13, 15, 16, 17, 18, 19, 20, 49, 50, 51, 52], ∀ k, gi σ' (e j) k = gi σ (e j) k := fun j hj => ha j (hk j hj).1 (hk j hj).2
  refine ⟨h1.sk hs, ?_, ?_, h4, ?_, ?_, ?_⟩
  · unfold R9 at *
    rw [hc 9 (by decide)]
    simpa only [ha 10 (by decide), ha 11 (by decide), ha 12 (by decide), ha 13 (by decide)] using h2
  · unfold H9 at *
    rw [hc 2 (by decide)]
    simpa only [ha 3 (by decide), ha 4 (by decide), ha 5 (by decide), ha 6 (by decide), ha 7 (by decide), ha 8 (by decide)] using h3
  · unfold SH9 at *
    rw [hc 14 (by decide)]
    simpa only [ha 15 (by decide), ha 16 (by decide), ha 17 (by decide), ha 18 (by decide), ha 19 (by decide), ha 20 (by decide)] using h5
  · unfold RD9 at *
    rw [hc 48 (by decide)]
    simpa only [ha 49 (by decide), ha 50 (by decide), ha 51 (by decide), ha 52 (by decide)] using h6
  · unfold SC9 at *
    rw [hc 53 (by decide), hc 38 (by decide), hc 1 (by decide)]
    exact h7
theorem T9.addB {b : Int32} {P : Hp → Prop} (h : T9 σ a e g t sh rl sc) (hs0 : SK σ0 σ) (hf0 : Fr (W9 a e) σ0 σ) (ht : t.1 < 200) (hp : ∀ σ', T9 σ' a e g (tpA t b) sh rl sc → SK σ0 σ' → Fr (W9 a e) σ0 σ' → P σ') : ∃ b301 : Nat, (gr σ a 32) = some b301 ∧ ∃ n302 : Nat, gk σ b301 = some (10, n302) ∧ vp_in (gi σ a 33) n302 ∧ P (si (si σ b301 (Int32.toNatClampNeg (gi σ a 33)) b) a 33 ((gi σ a 33) + (1 : Int32))) := by
  obtain ⟨t1, t2⟩ := id h.2.2.2.1
  rw [t1]
  refine ⟨e 32, h.1.r 32 rfl, 200, h.1.k 32 rfl, vinN ht (by decide), ?_⟩
  rw [clN (show t.1 < 2147483648 by omega), show nI t.1 + (1 : Int32) = nI (t.1 + 1) from nI_1 _]
  have na : e 32 ≠ a := h.1.na 32 (by decide)
  refine hp _ (h.tape ((SK.wi _ _ _).tr (SK.wi _ _ _)) (fun k hk => ?_) (fun j hj h32 k => ?_) ⟨gi_ss, fun i hi => ?_⟩) (hs0.tr ((SK.wi _ _ _).tr (SK.wi _ _ _))) ((hf0.wi _ (Or.inr ⟨32, by decide, rfl⟩)).ob _ _)
  · rw [gi_sk hk, gi_sa (Ne.symm na)]
  · rw [gi_sa (h.1.na j hj), gi_sa (h.1.ne hj (by decide) h32)]
  · have hi : i < t.1 + 1 := hi
    rw [gi_sa na, gi_si]
    show _ = if i = t.1 then b else t.2 i
    by_cases hit : i = t.1
    · rw [if_pos ⟨rfl, hit⟩, if_pos hit]
    · rw [if_neg (fun z => hit z.2), if_neg hit]; exact t2 i (by omega)
theorem T9.addN {x : Int32} {post : Hp → Prop} (h : T9 σ a e g t sh rl sc) (hs0 : SK σ0 σ) (hf0 : Fr (W9 a e) σ0 σ) (ht : t.1 + 4 ≤ 200) (hp : ∀ σ', T9 σ' a e g (tp4 t x) sh rl sc → SK σ0 σ' → Fr (W9 a e) σ0 σ' → post σ') : P_X9_four a x σ post := by
  unfold P_X9_four
  intro I hI
  refine hI _ _ ⟨fun z => absurd z (by decide), fun _ => ⟨h.1.1, h.addB hs0 hf0 (by omega) (fun σ1 h1 hs1 hf1 => ?_)⟩⟩
  refine hI _ _ ⟨fun z => absurd z (by decide), fun _ => ⟨h1.1.1, h1.addB hs1 hf1 (show t.1 + 1 < 200 by omega) (fun σ2 h2 hs2 hf2 => ?_)⟩⟩
  refine hI _ _ ⟨fun z => absurd z (by decide), fun _ => ⟨h2.1.1, h2.addB hs2 hf2 (show t.1 + 1 + 1 < 200 by omega) (fun σ3 h3 hs3 hf3 => ?_)⟩⟩
  refine hI _ _ ⟨fun z => absurd z (by decide), fun _ => ⟨h3.1.1, h3.addB hs3 hf3 (show t.1 + 1 + 1 + 1 < 200 by omega) (fun σ4 h4 hs4 hf4 => ?_)⟩⟩
  refine hI _ _ ⟨fun _ => hp _ ?_ hs4 hf4, fun z => absurd (by decide) z⟩
  exact h4
theorem T9_feed {x1 x2 x3 x4 x5 : Int32} {post : Int32 → Hp → Prop} (h : T9 σ a e g t sh rl sc) (ht : t.1 ≤ 200) (hp : ∀ σ', T9 σ' a e g (oFeed t x1 x2 x3 x4 x5).2 sh rl sc → SK σ σ' → Fr (W9 a e) σ σ' → post (oFeed t x1 x2 x3 x4 x5).1 σ') : P_X9_feed a x1 x2 x3 x4 x5 σ post := by
  unfold P_X9_feed
  have hT := h.thr 0
  have hs : SK σ (si σ a 0 0) := SK.wi _ _ _
  have hf : Fr (W9 a e) σ (si σ a 0 0) := Fr.rf.ob _ _
  rw [h.2.2.2.1.1, ile, show nI t.1 + (20 : Int32) = nI (t.1 + 20) from nI_add t.1 20, nIi (by omega), show (200 : Int32).toInt = 200 by decide]
  unfold oFeed at hp
  refine ⟨h.1.1, fun z => ?_, fun z => ?_⟩
  · rw [if_pos (by omega)] at hp
    refine hT.addN hs hf (by omega) (fun σ1 h1 hs1 hf1 => ⟨h1.1.1, h1.addN hs1 hf1 (show t.1 + 4 + 4 ≤ 200 by omega) (fun σ2 h2 hs2 hf2 => ⟨h2.1.1, h2.addN hs2 hf2 (show t.1 + 4 + 4 + 4 ≤ 200 by omega) (fun σ3 h3 hs3 hf3 => ⟨h3.1.1, h3.addN hs3 hf3 (show t.1 + 4 + 4 + 4 + 4 ≤ 200 by omega) (fun σ4 h4 hs4 hf4 => ⟨h4.1.1, h4.addN hs4 hf4 (show t.1 + 4 + 4 + 4 + 4 + 4 ≤ 200 by omega) (fun σ5 h5 hs5 hf5 => ⟨h5.1.1, ?_⟩)⟩)⟩)⟩)⟩)
    rw [h5.2.2.2.1.1]
    exact hp σ5 h5 hs5 hf5
  · rw [if_neg (by omega)] at hp
    exact hp _ hT hs hf
theorem T9_end {x : Int32} {post : Int32 → Hp → Prop} (h : T9 σ a e g t sh rl sc) (ht : t.1 ≤ 200) (hp : ∀ σ', T9 σ' a e g (oEnd t x).2 sh rl sc → SK σ σ' → Fr (W9 a e) σ σ' → post (oEnd t x).1 σ') : P_X9_end a x σ post := by
  unfold P_X9_end
  have hT := h.thr 0
  have hs : SK σ (si σ a 0 0) := SK.wi _ _ _
  have hf : Fr (W9 a e) σ (si σ a 0 0) := Fr.rf.ob _ _
  rw [h.2.2.2.1.1, ile, ilt, nIi (show t.1 < 2147483648 by omega), show (0 : Int32).toInt = 0 by decide]
  unfold oEnd at hp
  refine ⟨h.1.1, fun z => ?_, fun z => ⟨fun y => ?_, fun y => ?_⟩⟩
  · rw [if_neg (by omega)] at hp; exact hp _ hT hs hf
  · rw [if_pos (by omega)] at hp
    have na : e 32 ≠ a := h.1.na 32 (by decide)
    refine hp _ (hT.tape (SK.wi _ _ _) (fun k hk => gi_sk hk) (fun j hj _ k => gi_sa (h.1.na j hj)) ⟨by rw [gi_ss]; exact (nI_cl (by omega)).symm, fun i hi => ?_⟩) (hs.tr (SK.wi _ _ _)) (hf.ob _ _)
    have hi : i < x.toNatClampNeg := hi
    rw [gi_sa na]
    exact hT.2.2.2.1.2 i (by rw [icl] at hi; omega)
  · rw [if_neg (by omega)] at hp; exact hp _ hT hs hf
end TAPE9
section CALLS
variable {σ : Hp} {a8 a9 : Nat} {K : Hp → Prop}
theorem call_feed {x1 x2 x3 x4 x5 : Int32} (h : TIE a8 a9 σ) (hK : ∀ σ', TIE a8 a9 σ' → K σ') {Q8 : Int32 → Hp → Prop} (hQ : ∀ r1 σ1, (gk σ1 a9 = some (9, 0) ∧ P_X9_feed a9 x1 x2 x3 x4 x5 σ1 (fun r2 σ2 => (r1 = r2 → K σ2) ∧ (¬ r1 = r2 → False))) → Q8 r1 σ1) : P_X8_feed a8 x1 x2 x3 x4 x5 σ Q8 := by
  obtain ⟨c, e, s, g, t, sh, rl, sc, rfl, hT8, hT9, hdis, hg, hsh, hrl⟩ := h
  exact both (P9 := fun σ1 post => P_X9_feed a9 x1 x2 x3 x4 x5 σ1 post) hT8 hT9 hdis hg hsh hrl (fun post hp => T8_feed hT8 hp) (fun σ1 post h9 hp => T9_feed h9 hT8.2.2.2.1.2.1 hp) hK hQ
theorem call_end {x1 : Int32} (h : TIE a8 a9 σ) (hK : ∀ σ', TIE a8 a9 σ' → K σ') {Q8 : Int32 → Hp → Prop} (hQ : ∀ r1 σ1, (gk σ1 a9 = some (9, 0) ∧ P_X9_end a9 x1 σ1 (fun r2 σ2 => (r1 = r2 → K σ2) ∧ (¬ r1 = r2 → False))) → Q8 r1 σ1) : P_X8_end a8 x1 σ Q8 := by
  obtain ⟨c, e, s, g, t, sh, rl, sc, rfl, hT8, hT9, hdis, hg, hsh, hrl⟩ := h
  exact both (P9 := fun σ1 post => P_X9_end a9 x1 σ1 post) hT8 hT9 hdis hg hsh hrl (fun post hp => T8_end hT8 hp) (fun σ1 post h9 hp => T9_end h9 hT8.2.2.2.1.2.1 hp) hK hQ
end CALLS
