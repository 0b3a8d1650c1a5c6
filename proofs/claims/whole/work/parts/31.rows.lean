/-! rows: their data, the class's and the reference's pictures of them -/
abbrev RD : Type := Int32 × Int32 × Int32 × Int32 × Int32
abbrev RM : Type := Nat × (Nat → RD)
/-- row object q is row i with data d -/
def RW (σ : Hp) (q i : Nat) (d : RD) : Prop := gk σ q = some (4, 0) ∧ gi σ q 0 = nI i ∧ gi σ q 1 = d.1 ∧ gi σ q 2 = d.2.1 ∧ gi σ q 3 = d.2.2.1 ∧ gi σ q 4 = d.2.2.2.1 ∧ gi σ q 5 = d.2.2.2.2
/-- the Rows object a with its array ra -/
def RS (σ : Hp) (a ra : Nat) (ρ : RM) : Prop := gk σ a = some (5, 0) ∧ gr σ a 0 = some ra ∧ gk σ ra = some (13, 60) ∧ gi σ a 1 = nI ρ.1 ∧ ρ.1 ≤ 60 ∧ (∀ i, i < ρ.1 → ∃ q, gr σ ra i = some q ∧ RW σ q i (ρ.2 i)) ∧ ∀ i, ρ.1 ≤ i → i < 60 → gr σ ra i = none
/-- the reference's rows -/
def R9 (σ : Hp) (a : Nat) (e : Nat → Nat) (ρ : RM) : Prop := gi σ a 9 = nI ρ.1 ∧ ρ.1 ≤ 60 ∧ ∀ i, i < ρ.1 → gi σ (e 10) i = (ρ.2 i).1 ∧ gi σ (e 11) i = (ρ.2 i).2.1 ∧ gi σ (e 12) (2 * i) = (ρ.2 i).2.2.1 ∧ gi σ (e 12) (2 * i + 1) = (ρ.2 i).2.2.2.1 ∧ gi σ (e 13) i = (ρ.2 i).2.2.2.2
/-- row x stands -/
abbrev stn (ρ : RM) (x : Int32) : Prop := (0 ≤ x.toInt ∧ x.toInt < ρ.1) ∧ (ρ.2 x.toNatClampNeg).2.2.2.2 ≠ 0
theorem X5_at {σ : Hp} {a ra : Nat} {ρ : RM} {x : Int32} {post : Option Nat → Hp → Prop} (h : RS σ a ra ρ) (hp : post (if 0 ≤ x.toInt ∧ x.toInt < ρ.1 then gr σ ra x.toNatClampNeg else none) σ) : P_X5_at a x σ post := by
  obtain ⟨h1, h2, h3, h4, h5, h6, h7⟩ := h
  unfold P_X5_at
  simp only [ilt, ile, ofn, nIi (show 60 < 2147483648 by decide), show (0 : Int32).toInt = 0 by decide]
  refine ⟨fun hx => ?_, fun hx => ⟨h1, ra, h2, 60, h3, fun hy => ?_, fun hy => ?_⟩⟩
  · rwa [if_neg (by omega)] at hp
  · rw [nIi (by decide)] at hy
    rwa [if_neg (by omega)] at hp
  · rw [nIi (by decide)] at hy
    refine ⟨vin (by omega) (by omega), ?_⟩
    by_cases hn : x.toInt < ρ.1
    · rwa [if_pos ⟨by omega, hn⟩] at hp
    · rw [if_neg (by omega)] at hp
      rwa [h7 x.toNatClampNeg (by rw [icl]; omega) (by rw [icl]; omega)]
theorem RS.row {σ : Hp} {a ra : Nat} {ρ : RM} {x : Int32} (h : RS σ a ra ρ) (hx : 0 ≤ x.toInt ∧ x.toInt < ρ.1) : ∃ q, gr σ ra x.toNatClampNeg = some q ∧ RW σ q x.toNatClampNeg (ρ.2 x.toNatClampNeg) := h.2.2.2.2.2.1 _ (by rw [icl]; omega)
theorem X5_standing {σ : Hp} {a ra : Nat} {ρ : RM} {x : Int32} {post : Option Nat → Hp → Prop} (h : RS σ a ra ρ) (hp : post (if stn ρ x then gr σ ra x.toNatClampNeg else none) σ) : P_X5_standing a x σ post := by
  unfold P_X5_standing
  refine ⟨h.1, X5_at h ?_⟩
  by_cases hx : 0 ≤ x.toInt ∧ x.toInt < ρ.1
  · obtain ⟨q, hq, hw⟩ := h.row hx
    rw [if_pos hx]
    refine ⟨fun h0 => ?_, fun b hb => ⟨?_, fun h0 => ?_, fun h0 => ?_⟩⟩
    · rw [hq] at h0; cases h0
    · rw [hq] at hb; cases hb; exact hw.1
    · rw [hq] at hb; cases hb
      rw [hw.2.2.2.2.2.2] at h0
      rwa [if_neg (fun q => q.2 h0)] at hp
    · rw [hq] at hb; cases hb
      rw [hw.2.2.2.2.2.2] at h0
      rwa [if_pos ⟨hx, h0⟩] at hp
  · rw [if_neg (fun q => hx q.1)] at hp
    rw [if_neg hx]
    exact ⟨fun _ => hp, fun b hb => by cases hb⟩
theorem X5_isFull {σ : Hp} {a ra : Nat} {ρ : RM} {post : Int32 → Hp → Prop} (h : RS σ a ra ρ) (hp : post (if ρ.1 = 60 then 1 else 0) σ) : P_X5_isFull a σ post := by
  obtain ⟨h1, h2, h3, h4, h5, h6, h7⟩ := h
  unfold P_X5_isFull
  rw [h4]
  refine ⟨h1, ra, h2, 60, h3, fun hx => ?_, fun hx => ?_⟩
  · rw [ilt, ofn, nIi (by omega), nIi (by omega)] at hx
    rwa [if_neg (by omega)] at hp
  · rw [ilt, ofn, nIi (by omega), nIi (by omega)] at hx
    rwa [if_pos (by omega)] at hp
theorem X9_isRow {σ : Hp} {a : Nat} {e : Nat → Nat} {ρ : RM} {x : Int32} {post : Int32 → Hp → Prop} (hL : L9 σ a e) (h : R9 σ a e ρ) (hp : post (if stn ρ x then 1 else 0) σ) : P_X9_isRow a x σ post := by
  obtain ⟨h1, h2, h3⟩ := h
  unfold P_X9_isRow
  refine ⟨hL.1, X9_in ?_⟩
  have hc : (Int32.toInt64 (gi σ a 9) - 1).toInt = (ρ.1 : Int) - 1 := by
    have h9 : (Int32.toInt64 (gi σ a 9)).toInt = (ρ.1 : Int) := by rw [h1, i64of, nIi (by omega)]
    have h8 : (1 : Int64).toInt = 1 := by decide
    rw [lsub (by rw [h9, h8]; omega) (by rw [h9, h8]; omega), h9, h8]
  rw [i64of, hc, show (0 : Int64).toInt = 0 by decide]
  by_cases hx : 0 ≤ x.toInt ∧ x.toInt < ρ.1
  · rw [if_pos (by omega)]
    refine ⟨fun h0 => absurd h0 (by decide), fun _ => ⟨hL.1, e 13, hL.r 13 rfl, 60, hL.k 13 rfl, vin hx.1 (by omega), fun h0 => ?_, fun h0 => ?_⟩⟩
    · rw [(h3 _ (show x.toNatClampNeg < ρ.1 by rw [icl]; omega)).2.2.2.2] at h0
      rwa [if_neg (fun q => q.2 h0)] at hp
    · rw [(h3 _ (show x.toNatClampNeg < ρ.1 by rw [icl]; omega)).2.2.2.2] at h0
      rwa [if_pos ⟨hx, h0⟩] at hp
  · rw [if_neg (by omega)]
    refine ⟨fun _ => ?_, fun h0 => absurd rfl h0⟩
    rwa [if_neg (fun q => hx q.1)] at hp
/-- one event's new data of its row: sort 0 a row comes, 1 its value, 2 a reference, else it goes -/
def apD (s A B C D : Int32) (d : RD) : RD := if s.toInt = 0 then (A, B, C, D, 1) else if s.toInt = 1 then (d.1, A, d.2.2) else if s.toInt = 2 then (if A = 0 then (d.1, d.2.1, B, d.2.2.2) else (d.1, d.2.1, d.2.2.1, B, d.2.2.2.2)) else (d.1, d.2.1, d.2.2.1, d.2.2.2.1, 0)
def setR (ρ : RM) (i : Nat) (d : RD) : RM := (if i < ρ.1 then ρ.1 else i + 1, fun j => if j = i then d else ρ.2 j)
/-- what the ints and longs outside W are stays -/
def Fr (W : Nat → Nat → Prop) (σ σ' : Hp) : Prop := ∀ b k, ¬ W b k → gi σ' b k = gi σ b k ∧ gl σ' b k = gl σ b k
theorem Fr.rf {W : Nat → Nat → Prop} {σ : Hp} : Fr W σ σ := fun _ _ _ => ⟨rfl, rfl⟩
theorem Fr.tr {W : Nat → Nat → Prop} {σ σ' σ'' : Hp} (h : Fr W σ σ') (h' : Fr W σ' σ'') : Fr W σ σ'' := fun b k w => ⟨(h' b k w).1.trans (h b k w).1, (h' b k w).2.trans (h b k w).2⟩
theorem Fr.mono {W W' : Nat → Nat → Prop} {σ σ' : Hp} (h : Fr W σ σ') (hw : ∀ b k, W b k → W' b k) : Fr W' σ σ' := fun b k w => h b k (fun q => w (hw b k q))
theorem Fr.wi {W : Nat → Nat → Prop} {σ σ' : Hp} (h : Fr W σ σ') {a k : Nat} (v : Int32) (hw : W a k) : Fr W σ (si σ' a k v) := fun b j w => by
  refine ⟨?_, (h b j w).2⟩
  rw [gi_si, if_neg (fun q => w (by rw [q.1, q.2]; exact hw))]
  exact (h b j w).1
theorem Fr.wl {W : Nat → Nat → Prop} {σ σ' : Hp} (h : Fr W σ σ') {a k : Nat} (v : Int64) (hw : W a k) : Fr W σ (sl σ' a k v) := fun b j w => by
  refine ⟨(h b j w).1, ?_⟩
  rw [gl_sl, if_neg (fun q => w (by rw [q.1, q.2]; exact hw))]
  exact (h b j w).2
/-- the reference's rows' cells -/
def WR (a : Nat) (e : Nat → Nat) (b k : Nat) : Prop := (b = a ∧ k = 9) ∨ b = e 10 ∨ b = e 11 ∨ b = e 12 ∨ b = e 13
theorem X9_goOne {σ : Hp} {a : Nat} {e : Nat → Nat} {ρ : RM} {k i : Nat} {post : Hp → Prop} (hL : L9 σ a e) (hk : k < 300) (h9 : gi σ a 9 = nI ρ.1) (hn : ρ.1 ≤ 60)
    (hR : ∀ i, i < ρ.1 → gi σ (e 10) i = (ρ.2 i).1 ∧ gi σ (e 11) i = (ρ.2 i).2.1 ∧ gi σ (e 12) (2 * i) = (ρ.2 i).2.2.1 ∧ gi σ (e 12) (2 * i + 1) = (ρ.2 i).2.2.2.1 ∧ gi σ (e 13) i = (ρ.2 i).2.2.2.2)
    (hi : gi σ (e 4) k = nI i) (hi60 : i < 60) (h0 : (gi σ (e 3) k).toInt = 0 → i = ρ.1) (h1 : (gi σ (e 3) k).toInt ≠ 0 → i < ρ.1) (h2 : (gi σ (e 3) k).toInt = 2 → gi σ (e 5) k = 0 ∨ gi σ (e 5) k = 1)
    (hp : ∀ σ', SK σ σ' → Fr (WR a e) σ σ' → R9 σ' a e (setR ρ i (apD (gi σ (e 3) k) (gi σ (e 5) k) (gi σ (e 6) k) (gi σ (e 7) k) (gi σ (e 8) k) (ρ.2 i))) → post σ') : P_X9_goOne a (nI k) σ post := by
  have hk' : k < 2147483648 := by omega
  have m2 : ((2 : Int32) * nI i) = nI (2 * i) := by rw [show (2 : Int32) = nI 2 from rfl, pk_mul]
  have m3 : nI (2 * i) + (1 : Int32) = nI (2 * i + 1) := nI_1 _
  have m1 : nI i + (1 : Int32) = nI (i + 1) := nI_1 _
  have n1011 : e 10 ≠ e 11 := hL.ne (by decide) (by decide) (by decide)
  have n1012 : e 10 ≠ e 12 := hL.ne (by decide) (by decide) (by decide)
  have n1013 : e 10 ≠ e 13 := hL.ne (by decide) (by decide) (by decide)
  have n1112 : e 11 ≠ e 12 := hL.ne (by decide) (by decide) (by decide)
  have n1113 : e 11 ≠ e 13 := hL.ne (by decide) (by decide) (by decide)
  have n1213 : e 12 ≠ e 13 := hL.ne (by decide) (by decide) (by decide)
  have n10 : e 10 ≠ a := hL.na 10 (by decide)
  have n11 : e 11 ≠ a := hL.na 11 (by decide)
  have n12 : e 12 ≠ a := hL.na 12 (by decide)
  have n13 : e 13 ≠ a := hL.na 13 (by decide)
  have w9 : WR a e a 9 := Or.inl ⟨rfl, rfl⟩
  have w10 : ∀ j, WR a e (e 10) j := fun j => Or.inr (Or.inl rfl)
  have w11 : ∀ j, WR a e (e 11) j := fun j => Or.inr (Or.inr (Or.inl rfl))
  have w12 : ∀ j, WR a e (e 12) j := fun j => Or.inr (Or.inr (Or.inr (Or.inl rfl)))
  have w13 : ∀ j, WR a e (e 13) j := fun j => Or.inr (Or.inr (Or.inr (Or.inr rfl)))
  unfold P_X9_goOne
  refine ⟨hL.1, e 4, hL.r 4 rfl, 300, hL.k 4 rfl, vinN hk (by decide), e 3, hL.r 3 rfl, 300, hL.k 3 rfl, vinN hk (by decide), ?_⟩
  simp only [clN hk', hi, clN (show i < 2147483648 by omega), m2, m3, m1, clN (show 2 * i < 2147483648 by omega), clN (show 2 * i + 1 < 2147483648 by omega)]
  refine ⟨fun hs => ?_, fun hs => ?_, fun hs => ?_, fun hs => ?_⟩
  · have hlt : i < ρ.1 := h1 (by omega)
    refine ⟨e 13, hL.r 13 rfl, 60, hL.k 13 rfl, vinN hi60 (by decide), hp _ (SK.wi _ _ _) (Fr.rf.wi _ (w13 _)) ⟨?_, ?_, fun j hj => ?_⟩⟩
    · rw [gi_sa n13.symm, h9]; simp [setR, hlt]
    · simp [setR, hlt, hn]
    · have hj : j < ρ.1 := by simpa [setR, hlt] using hj
      obtain ⟨r1, r2, r3, r4, r5⟩ := hR j hj
      have hap : ∀ d, apD (gi σ (e 3) k) (gi σ (e 5) k) (gi σ (e 6) k) (gi σ (e 7) k) (gi σ (e 8) k) d = (d.1, d.2.1, d.2.2.1, d.2.2.2.1, 0) := fun d => by unfold apD; rw [if_neg (by omega), if_neg (by omega), if_neg (by omega)]
      rw [gi_sa n1013, gi_sa n1113, gi_sa n1213, gi_sa n1213, gi_si]
      by_cases hji : j = i
      · subst hji; simp [setR, hap, r1, r2, r3, r4]
      · simp [setR, hji, r1, r2, r3, r4, r5]
  · have hin : i = ρ.1 := h0 hs
    have x6 : e 6 ≠ e 10 := hL.ne (by decide) (by decide) (by decide)
    have x710 : e 7 ≠ e 10 := hL.ne (by decide) (by decide) (by decide)
    have x711 : e 7 ≠ e 11 := hL.ne (by decide) (by decide) (by decide)
    have x810 : e 8 ≠ e 10 := hL.ne (by decide) (by decide) (by decide)
    have x811 : e 8 ≠ e 11 := hL.ne (by decide) (by decide) (by decide)
    have x812 : e 8 ≠ e 12 := hL.ne (by decide) (by decide) (by decide)
    refine ⟨e 5, hL.r 5 rfl, 300, hL.k 5 rfl, vinN hk (by decide), e 10, hL.r 10 rfl, 60, hL.k 10 rfl, vinN hi60 (by decide), e 6, hL.r 6 rfl, 300, hL.k 6 rfl, vinN hk (by decide), e 11, hL.r 11 rfl, 60, hL.k 11 rfl, vinN hi60 (by decide), e 7, hL.r 7 rfl, 300, hL.k 7 rfl, vinN hk (by decide), e 12, hL.r 12 rfl, 120, hL.k 12 rfl, vinN (by omega) (by decide), e 8, hL.r 8 rfl, 300, hL.k 8 rfl, vinN hk (by decide), vinN (by omega) (by decide), e 13, hL.r 13 rfl, 60, hL.k 13 rfl, vinN hi60 (by decide), ?_⟩
    refine hp _ ⟨fun _ => rfl, fun _ _ => rfl⟩ (((((((Fr.rf.wi _ (w10 _)).wi _ (w11 _)).wi _ (w12 _)).wi _ (w12 _)).wi _ (w13 _))).wi _ w9) ⟨?_, ?_, fun j hj => ?_⟩
    · rw [gi_ss]; simp [setR, hin]
    · simp [setR, hin]; omega
    · have hap : ∀ d, apD (gi σ (e 3) k) (gi σ (e 5) k) (gi σ (e 6) k) (gi σ (e 7) k) (gi σ (e 8) k) d = (gi σ (e 5) k, gi σ (e 6) k, gi σ (e 7) k, gi σ (e 8) k, 1) := fun d => by unfold apD; rw [if_pos hs]
      have hj' : j < i + 1 := by simpa [setR, hin] using hj
      by_cases hji : j = i
      · subst hji
        simp [setR, hap, gi_si, n10, n11, n12, n13, n1011, n1012, n1013, n1112, n1113, n1213, n1011.symm, n1012.symm, n1013.symm, n1112.symm, n1113.symm, n1213.symm, x6, x710, x711, x810, x811, x812]
      · have hlt : j < ρ.1 := by omega
        obtain ⟨r1, r2, r3, r4, r5⟩ := hR j hlt
        have y1 : ¬ 2 * j = 2 * i + 1 := by omega
        have y2 : ¬ 2 * j + 1 = 2 * i := by omega
        have y3 : ¬ 2 * j = 2 * i := by omega
        simp [setR, hap, gi_si, n10, n11, n12, n13, n1011, n1012, n1013, n1112, n1113, n1213, n1011.symm, n1012.symm, n1013.symm, n1112.symm, n1113.symm, n1213.symm, hji, y1, y2, y3, r1, r2, r3, r4, r5]
  · have hlt : i < ρ.1 := h1 (by omega)
    refine ⟨e 5, hL.r 5 rfl, 300, hL.k 5 rfl, vinN hk (by decide), e 11, hL.r 11 rfl, 60, hL.k 11 rfl, vinN hi60 (by decide), hp _ (SK.wi _ _ _) (Fr.rf.wi _ (w11 _)) ⟨?_, ?_, fun j hj => ?_⟩⟩
    · rw [gi_sa n11.symm, h9]; simp [setR, hlt]
    · simp [setR, hlt, hn]
    · have hj : j < ρ.1 := by simpa [setR, hlt] using hj
      obtain ⟨r1, r2, r3, r4, r5⟩ := hR j hj
      have hap : ∀ d, apD (gi σ (e 3) k) (gi σ (e 5) k) (gi σ (e 6) k) (gi σ (e 7) k) (gi σ (e 8) k) d = (d.1, gi σ (e 5) k, d.2.2) := fun d => by unfold apD; rw [if_neg (by omega), if_pos hs]
      rw [gi_sa n1011, gi_sa n1112.symm, gi_sa n1112.symm, gi_sa n1113.symm, gi_si]
      by_cases hji : j = i
      · subst hji; simp [setR, hap, r1, r3, r4, r5]
      · simp [setR, hji, r1, r2, r3, r4, r5]
  · have hlt : i < ρ.1 := h1 (by omega)
    have hv := h2 hs
    refine ⟨e 5, hL.r 5 rfl, 300, hL.k 5 rfl, vinN hk (by decide), ?_⟩
    rcases hv with hv | hv
    · simp only [hv]
      have m4 : nI (2 * i) + (0 : Int32) = nI (2 * i) := Int32.add_zero _
      simp only [m4, clN (show 2 * i < 2147483648 by omega)]
      refine ⟨e 6, hL.r 6 rfl, 300, hL.k 6 rfl, vinN hk (by decide), e 12, hL.r 12 rfl, 120, hL.k 12 rfl, vinN (by omega) (by decide), hp _ (SK.wi _ _ _) (Fr.rf.wi _ (w12 _)) ⟨?_, ?_, fun j hj => ?_⟩⟩
      · rw [gi_sa n12.symm, h9]; simp [setR, hlt]
      · simp [setR, hlt, hn]
      · have hj : j < ρ.1 := by simpa [setR, hlt] using hj
        obtain ⟨r1, r2, r3, r4, r5⟩ := hR j hj
        have hap : ∀ d, apD (gi σ (e 3) k) (gi σ (e 5) k) (gi σ (e 6) k) (gi σ (e 7) k) (gi σ (e 8) k) d = (d.1, d.2.1, gi σ (e 6) k, d.2.2.2) := fun d => by unfold apD; rw [if_neg (by omega), if_neg (by omega), if_pos hs, if_pos hv]
        rw [gi_sa n1012, gi_sa n1112, gi_si, gi_sk (by omega), gi_sa n1213.symm]
        by_cases hji : j = i
        · subst hji; simp [setR, hap, r1, r2, r4, r5]
        · have y3 : ¬ 2 * j = 2 * i := by omega
          simp [setR, hji, y3, r1, r2, r3, r4, r5]
    · simp only [hv]
      simp only [m3, clN (show 2 * i + 1 < 2147483648 by omega)]
      refine ⟨e 6, hL.r 6 rfl, 300, hL.k 6 rfl, vinN hk (by decide), e 12, hL.r 12 rfl, 120, hL.k 12 rfl, vinN (by omega) (by decide), hp _ (SK.wi _ _ _) (Fr.rf.wi _ (w12 _)) ⟨?_, ?_, fun j hj => ?_⟩⟩
      · rw [gi_sa n12.symm, h9]; simp [setR, hlt]
      · simp [setR, hlt, hn]
      · have hj : j < ρ.1 := by simpa [setR, hlt] using hj
        obtain ⟨r1, r2, r3, r4, r5⟩ := hR j hj
        have hap : ∀ d, apD (gi σ (e 3) k) (gi σ (e 5) k) (gi σ (e 6) k) (gi σ (e 7) k) (gi σ (e 8) k) d = (d.1, d.2.1, d.2.2.1, gi σ (e 6) k, d.2.2.2.2) := fun d => by unfold apD; rw [if_neg (by omega), if_neg (by omega), if_pos hs, if_neg (by rw [hv]; decide)]
        rw [gi_sa n1012, gi_sa n1112, gi_sk (by omega), gi_si, gi_sa n1213.symm]
        by_cases hji : j = i
        · subst hji; simp [setR, hap, r1, r2, r3, r5]
        · have y3 : ¬ 2 * j + 1 = 2 * i + 1 := by omega
          have y4 : ¬ 2 * j = 2 * i := by omega
          simp [setR, hji, y3, y4, r1, r2, r3, r4, r5]
