/-! what the reference asks of a token -/
theorem run_all (t : G2) (f : Int32 → Bool) : ∀ m p i, p ≤ i → i < run t f m p → f (byt t i) = true
  | 0, p, i, h1, h2 => by
    have h2 : i < p := h2
    omega
  | m + 1, p, i, h1, h2 => by
    by_cases h : f (byt t p) = true
    · rw [run_1 t f h] at h2
      by_cases hip : i = p
      · rw [hip]; exact h
      · exact run_all t f m (p + 1) i (by omega) h2
    · rw [run_0 t f h] at h2; omega
theorem srt1 {t : G2} (hT : TOK t) {x : PS} (hx : TKW t x) : srt t x.1 = 1 ↔ isL (byt t x.1) = true := by
  unfold srt
  by_cases h : t.1 ≤ x.1
  · rw [if_pos h, (byt_m1 hT).mpr h]
    exact ⟨fun z => absurd z (by decide), fun z => absurd z (by decide)⟩
  · rw [if_neg h]
    by_cases h1 : isL (byt t x.1) = true
    · rw [if_pos h1]; exact ⟨fun _ => h1, fun _ => rfl⟩
    · rw [if_neg h1]
      refine ⟨fun z => ?_, fun z => absurd z h1⟩
      split at z <;> omega
theorem srt2 {t : G2} (hT : TOK t) {x : PS} (hx : TKW t x) : srt t x.1 = 2 ↔ isD (byt t x.1) = true := by
  unfold srt
  by_cases h : t.1 ≤ x.1
  · rw [if_pos h, (byt_m1 hT).mpr h]
    exact ⟨fun z => absurd z (by decide), fun z => absurd z (by decide)⟩
  · rw [if_neg h]
    by_cases h1 : isL (byt t x.1) = true
    · rw [if_pos h1]
      refine ⟨fun z => absurd z (by decide), fun z => ?_⟩
      have a1 := isL_i.mp h1
      have a2 := isD_i.mp z
      omega
    · rw [if_neg h1]
      by_cases h2 : isD (byt t x.1) = true
      · rw [if_pos h2]; exact ⟨fun _ => h2, fun _ => rfl⟩
      · rw [if_neg h2]; exact ⟨fun z => absurd z (by decide), fun z => absurd z h2⟩
/-- the letters of a word -/
theorem lets {t : G2} (hT : TOK t) {x : PS} (hx : TKW t x) (h : isL (byt t x.1) = true) : x.1 + 1 ≤ x.2.1 ∧ ∀ i, i < x.2.1 - x.1 → isL (byt t (x.1 + i)) = true := by
  have hb : ¬ byt t x.1 = -1 := fun z => by rw [z] at h; exact absurd h (by decide)
  have he := hx.2
  unfold tnd at he
  rw [if_neg hb, if_pos h] at he
  have hg := run_ge t isL (200 - (x.1 + 1)) (x.1 + 1)
  refine ⟨by omega, fun i hi => ?_⟩
  by_cases h0 : i = 0
  · rw [h0]; exact h
  · exact run_all t isL _ _ _ (show x.1 + 1 ≤ x.1 + i by omega) (by rw [← he]; omega)
theorem dgts {t : G2} (hT : TOK t) {x : PS} (hx : TKW t x) (h : isD (byt t x.1) = true) : x.1 + 1 ≤ x.2.1 ∧ ∀ i, i < x.2.1 - x.1 → isD (byt t (x.1 + i)) = true := by
  have hb : ¬ byt t x.1 = -1 := fun z => by rw [z] at h; exact absurd h (by decide)
  have hl : ¬ isL (byt t x.1) = true := fun z => by
    have a1 := isL_i.mp z
    have a2 := isD_i.mp h
    omega
  have he := hx.2
  unfold tnd at he
  rw [if_neg hb, if_neg hl, if_pos h] at he
  have hg := run_ge t isD (200 - (x.1 + 1)) (x.1 + 1)
  refine ⟨by omega, fun i hi => ?_⟩
  by_cases h0 : i = 0
  · rw [h0]; exact h
  · exact run_all t isD _ _ _ (show x.1 + 1 ≤ x.1 + i by omega) (by rw [← he]; omega)
theorem wdv_1 (t : G2) (s : Nat) : wdv t s 1 = (byt t s).toInt - 96 := by
  show (if 0 < 5 then (0 : Int) * 32 + (byt t (s + 0)).toInt - 96 else -1) = _
  rw [if_pos (by decide), Nat.add_zero]; omega
theorem wdv_s (t : G2) (s m : Nat) (h : m < 5) : wdv t s (m + 1) = wdv t s m * 32 + (byt t (s + m)).toInt - 96 := by
  show (if m < 5 then wdv t s m * 32 + (byt t (s + m)).toInt - 96 else -1) = _
  rw [if_pos h]
theorem wdv_6 (t : G2) (s m : Nat) (h : 5 ≤ m) : wdv t s (m + 1) = -1 := by
  show (if m < 5 then wdv t s m * 32 + (byt t (s + m)).toInt - 96 else -1) = _
  rw [if_neg (by omega)]
/-- a word's worth, by its length -/
theorem wdv_k {t : G2} {s m : Nat} (h1 : 1 ≤ m) (hl : ∀ i, i < m → isL (byt t (s + i)) = true) : (m = 1 ∧ wdv t s m = (byt t s).toInt - 96 ∧ 1 ≤ wdv t s m ∧ wdv t s m ≤ 26) ∨ (m = 2 ∧ wdv t s m = ((byt t s).toInt - 96) * 32 + (byt t (s + 1)).toInt - 96 ∧ 33 ≤ wdv t s m ∧ wdv t s m ≤ 858) ∨ (m = 3 ∧ 1057 ≤ wdv t s m ∧ wdv t s m ≤ 27482) ∨ (m = 4 ∧ wdv t s m = ((((byt t s).toInt - 96) * 32 + (byt t (s + 1)).toInt - 96) * 32 + (byt t (s + 2)).toInt - 96) * 32 + (byt t (s + 3)).toInt - 96 ∧ 33825 ≤ wdv t s m) ∨ (m = 5 ∧ 1082401 ≤ wdv t s m) ∨ wdv t s m = -1 := by
  have b0 := fun (h : 0 < m) => isL_i.mp (hl 0 h)
  have b1 := fun (h : 1 < m) => isL_i.mp (hl 1 h)
  have b2 := fun (h : 2 < m) => isL_i.mp (hl 2 h)
  have b3 := fun (h : 3 < m) => isL_i.mp (hl 3 h)
  have b4 := fun (h : 4 < m) => isL_i.mp (hl 4 h)
  have v1 := wdv_1 t s
  have v2 : wdv t s 2 = wdv t s 1 * 32 + (byt t (s + 1)).toInt - 96 := wdv_s t s 1 (by decide)
  have v3 : wdv t s 3 = wdv t s 2 * 32 + (byt t (s + 2)).toInt - 96 := wdv_s t s 2 (by decide)
  have v4 : wdv t s 4 = wdv t s 3 * 32 + (byt t (s + 3)).toInt - 96 := wdv_s t s 3 (by decide)
  have v5 : wdv t s 5 = wdv t s 4 * 32 + (byt t (s + 4)).toInt - 96 := wdv_s t s 4 (by decide)
  rw [Nat.add_zero] at b0
  by_cases h6 : 6 ≤ m
  · obtain ⟨n, rfl⟩ : ∃ n, m = n + 1 := ⟨m - 1, by omega⟩
    exact Or.inr (Or.inr (Or.inr (Or.inr (Or.inr (wdv_6 t s n (by omega))))))
  rcases (show m = 1 ∨ m = 2 ∨ m = 3 ∨ m = 4 ∨ m = 5 by omega) with rfl | rfl | rfl | rfl | rfl
  · have := b0 (by decide)
    exact Or.inl ⟨rfl, v1, by omega, by omega⟩
  · have := b0 (by decide)
    have := b1 (by decide)
    exact Or.inr (Or.inl ⟨rfl, by omega, by omega, by omega⟩)
  · have := b0 (by decide)
    have := b1 (by decide)
    have := b2 (by decide)
    exact Or.inr (Or.inr (Or.inl ⟨rfl, by omega, by omega⟩))
  · have := b0 (by decide)
    have := b1 (by decide)
    have := b2 (by decide)
    have := b3 (by decide)
    exact Or.inr (Or.inr (Or.inr (Or.inl ⟨rfl, by omega, by omega⟩)))
  · have := b0 (by decide)
    have := b1 (by decide)
    have := b2 (by decide)
    have := b3 (by decide)
    have := b4 (by decide)
    exact Or.inr (Or.inr (Or.inr (Or.inr (Or.inl ⟨rfl, by omega⟩))))
theorem wth_1 {t : G2} {x : PS} (h : srt t x.1 = 1) : wth t x = wdv t x.1 (x.2.1 - x.1) := by
  unfold wth; rw [if_neg (by omega), if_pos h]
theorem wth_2 {t : G2} {x : PS} (h : srt t x.1 = 2) : wth t x = dgv t x.1 (x.2.1 - x.1) := by
  unfold wth; rw [if_neg (by omega), if_neg (by omega), if_pos h]
theorem tab_c {t : G2} (hT : TOK t) {x : PS} (hx : TKW t x) : ((srt t x.1 = 1 ∧ 1 ≤ wth t x ∧ wth t x ≤ 4) ↔ tab t x ≠ -1) ∧ (tab t x ≠ -1 → wth t x = (tab t x).toInt + 1) := by
  have back : tab t x ≠ -1 → srt t x.1 = 1 ∧ wth t x = (tab t x).toInt + 1 := fun h => by
    obtain ⟨h1, h2, h3, h4⟩ := tab_b h
    have hs : srt t x.1 = 1 := (srt1 hT hx).mpr (isL_i.mpr (by omega))
    refine ⟨hs, ?_⟩
    rw [wth_1 hs, show x.2.1 - x.1 = 1 by omega, wdv_1, h4]; omega
  refine ⟨⟨fun h => ?_, fun h => ?_⟩, fun h => (back h).2⟩
  · have hl := lets hT hx ((srt1 hT hx).mp h.1)
    have hw := wth_1 h.1
    have hb := isL_i.mp ((srt1 hT hx).mp h.1)
    have hcond : x.2.1 = x.1 + 1 ∧ 97 ≤ (byt t x.1).toInt ∧ (byt t x.1).toInt ≤ 100 := by
      rcases wdv_k (by omega) hl.2 with ⟨a1, a2, a3, a4⟩ | ⟨a1, a2, a3, a4⟩ | ⟨a1, a2, a3⟩ | ⟨a1, a2, a3⟩ | ⟨a1, a2⟩ | a1 <;> omega
    unfold tab
    rw [if_pos hcond]
    intro z
    have e97 : (97 : Int32).toInt = 97 := by decide
    have := congrArg Int32.toInt z
    rw [isub (by rw [e97]; omega) (by rw [e97]; omega), e97, show (-1 : Int32).toInt = -1 by decide] at this
    omega
  · obtain ⟨b1, b2⟩ := back h
    have := tab_in h
    exact ⟨b1, by omega, by omega⟩
theorem wV_c {t : G2} (hT : TOK t) {x : PS} (hx : TKW t x) : (srt t x.1 = 1 ∧ wth t x = 22) ↔ wrd t x wV := by
  constructor
  · rintro ⟨h1, h2⟩
    have hl := lets hT hx ((srt1 hT hx).mp h1)
    rw [wth_1 h1] at h2
    have hc : x.2.1 = x.1 + 1 ∧ (byt t x.1).toInt = 118 := by
      rcases wdv_k (by omega) hl.2 with ⟨a1, a2, a3, a4⟩ | ⟨a1, a2, a3, a4⟩ | ⟨a1, a2, a3⟩ | ⟨a1, a2, a3⟩ | ⟨a1, a2⟩ | a1 <;> omega
    refine ⟨hc.1, fun i hi => ?_⟩
    have hi : i < 1 := hi
    obtain rfl : i = 0 := by omega
    rw [ieq]; exact hc.2
  · rintro ⟨h1, h2⟩
    have h1 : x.2.1 = x.1 + 1 := h1
    have b0 : byt t x.1 = 118 := h2 0 (by decide)
    have hs : srt t x.1 = 1 := (srt1 hT hx).mpr (by rw [b0]; decide)
    refine ⟨hs, ?_⟩
    rw [wth_1 hs, show x.2.1 - x.1 = 1 by omega, wdv_1, b0]; decide
theorem wU_c {t : G2} (hT : TOK t) {x : PS} (hx : TKW t x) : (srt t x.1 = 1 ∧ wth t x = 688) ↔ wrd t x wU := by
  constructor
  · rintro ⟨h1, h2⟩
    have hl := lets hT hx ((srt1 hT hx).mp h1)
    rw [wth_1 h1] at h2
    have hc : x.2.1 = x.1 + 2 ∧ (byt t x.1).toInt = 117 ∧ (byt t (x.1 + 1)).toInt = 112 := by
      rcases wdv_k (by omega) hl.2 with ⟨a1, a2, a3, a4⟩ | ⟨a1, a2, a3, a4⟩ | ⟨a1, a2, a3⟩ | ⟨a1, a2, a3⟩ | ⟨a1, a2⟩ | a1
      · omega
      · have c0 := isL_i.mp (hl.2 0 (by omega))
        have c1 := isL_i.mp (hl.2 1 (by omega))
        rw [Nat.add_zero] at c0
        omega
      · omega
      · omega
      · omega
      · omega
    refine ⟨hc.1, fun i hi => ?_⟩
    have hi : i < 2 := hi
    rcases (show i = 0 ∨ i = 1 by omega) with rfl | rfl
    · rw [ieq]; exact hc.2.1
    · rw [ieq]; exact hc.2.2
  · rintro ⟨h1, h2⟩
    have h1 : x.2.1 = x.1 + 2 := h1
    have b0 : byt t x.1 = 117 := h2 0 (by decide)
    have b1 : byt t (x.1 + 1) = 112 := h2 1 (by decide)
    have hs : srt t x.1 = 1 := (srt1 hT hx).mpr (by rw [b0]; decide)
    refine ⟨hs, ?_⟩
    rw [wth_1 hs, show x.2.1 - x.1 = 1 + 1 by omega, wdv_s t x.1 1 (by decide), wdv_1, b0, b1]; decide
theorem wD_c {t : G2} (hT : TOK t) {x : PS} (hx : TKW t x) : (srt t x.1 = 1 ∧ wth t x = 147182) ↔ wrd t x wD := by
  constructor
  · rintro ⟨h1, h2⟩
    have hl := lets hT hx ((srt1 hT hx).mp h1)
    rw [wth_1 h1] at h2
    have hc : x.2.1 = x.1 + 4 ∧ (byt t x.1).toInt = 100 ∧ (byt t (x.1 + 1)).toInt = 111 ∧ (byt t (x.1 + 2)).toInt = 119 ∧ (byt t (x.1 + 3)).toInt = 110 := by
      rcases wdv_k (by omega) hl.2 with ⟨a1, a2, a3, a4⟩ | ⟨a1, a2, a3, a4⟩ | ⟨a1, a2, a3⟩ | ⟨a1, a2, a3⟩ | ⟨a1, a2⟩ | a1
      · omega
      · omega
      · omega
      · have c0 := isL_i.mp (hl.2 0 (by omega))
        have c1 := isL_i.mp (hl.2 1 (by omega))
        have c2 := isL_i.mp (hl.2 2 (by omega))
        have c3 := isL_i.mp (hl.2 3 (by omega))
        rw [Nat.add_zero] at c0
        omega
      · omega
      · omega
    refine ⟨hc.1, fun i hi => ?_⟩
    have hi : i < 4 := hi
    rcases (show i = 0 ∨ i = 1 ∨ i = 2 ∨ i = 3 by omega) with rfl | rfl | rfl | rfl
    · rw [ieq]; exact hc.2.1
    · rw [ieq]; exact hc.2.2.1
    · rw [ieq]; exact hc.2.2.2.1
    · rw [ieq]; exact hc.2.2.2.2
  · rintro ⟨h1, h2⟩
    have h1 : x.2.1 = x.1 + 4 := h1
    have b0 : byt t x.1 = 100 := h2 0 (by decide)
    have b1 : byt t (x.1 + 1) = 111 := h2 1 (by decide)
    have b2 : byt t (x.1 + 2) = 119 := h2 2 (by decide)
    have b3 : byt t (x.1 + 3) = 110 := h2 3 (by decide)
    have hs : srt t x.1 = 1 := (srt1 hT hx).mpr (by rw [b0]; decide)
    refine ⟨hs, ?_⟩
    rw [wth_1 hs, show x.2.1 - x.1 = 3 + 1 by omega, wdv_s t x.1 3 (by decide), wdv_s t x.1 2 (by decide), wdv_s t x.1 1 (by decide), wdv_1, b0, b1, b2, b3]; decide
theorem dgv_s (t : G2) (s m : Nat) : dgv t s (m + 1) = if 1000 < dgv t s m then dgv t s m else dgv t s m * 10 + (byt t (s + m)).toInt - 48 := rfl
theorem dgv_z {t : G2} {s : Nat} : ∀ m, (∀ i, i < m → isD (byt t (s + i)) = true) → (dgv t s m = 0 ↔ ∀ i, i < m → byt t (s + i) = 48)
  | 0, _ => ⟨fun _ i hi => absurd hi (Nat.not_lt_zero _), fun _ => rfl⟩
  | m + 1, h => by
    have ih := dgv_z (t := t) (s := s) m (fun i hi => h i (by omega))
    have hb := isD_i.mp (h m (by omega))
    have hd := dgv_b (t := t) (s := s) m (fun i hi => h i (by omega))
    rw [dgv_s]
    constructor
    · intro hz i hi
      have h0 : dgv t s m = 0 ∧ (byt t (s + m)).toInt = 48 := by
        split at hz <;> omega
      by_cases him : i = m
      · rw [him, ieq]; exact h0.2
      · exact ih.mp h0.1 i (by omega)
    · intro hz
      have h0 := ih.mpr (fun i hi => hz i (by omega))
      have h1 := hz m (by omega)
      rw [h0, if_neg (by decide), h1]; decide
theorem rfh_c {t : G2} (hT : TOK t) {x : PS} (hx : TKW t x) : ((srt t x.1 = 2 ∧ wth t x ≤ 1) ↔ rfh t x ≠ -1) ∧ (rfh t x ≠ -1 → wth t x = (rfh t x).toInt) := by
  have e48 : (48 : Int32).toInt = 48 := by decide
  have main : srt t x.1 = 2 → (wth t x ≤ 1 ↔ rok t x) ∧ (rok t x → wth t x = (byt t (x.2.1 - 1)).toInt - 48) := fun hs => by
    have hd := dgts hT hx ((srt2 hT hx).mp hs)
    obtain ⟨m, hm⟩ : ∃ m, x.2.1 - x.1 = m + 1 := ⟨x.2.1 - x.1 - 1, by omega⟩
    have hz := dgv_z (t := t) (s := x.1) m (fun i hi => hd.2 i (by omega))
    have hb := isD_i.mp (hd.2 m (by omega))
    have hb2 := dgv_b (t := t) (s := x.1) m (fun i hi => hd.2 i (by omega))
    have hl : x.2.1 - 1 = x.1 + m := by omega
    have hw : wth t x = if 1000 < dgv t x.1 m then dgv t x.1 m else dgv t x.1 m * 10 + (byt t (x.1 + m)).toInt - 48 := by rw [wth_2 hs, hm, dgv_s]
    have ok : rok t x → wth t x = (byt t (x.2.1 - 1)).toInt - 48 := fun h => by
      have h0 := hz.mpr (fun i hi => h.1 i (by omega))
      rw [hw, h0, if_neg (by decide), hl]; omega
    refine ⟨⟨fun h => ?_, fun h => ?_⟩, ok⟩
    · have h0 : dgv t x.1 m = 0 ∧ (byt t (x.1 + m)).toInt ≤ 49 := by
        rw [hw] at h
        split at h <;> omega
      refine ⟨fun i hi => hz.mp h0.1 i (by omega), (srt2 hT hx).mp hs, ?_⟩
      rw [hl, ieq, ieq, e48, show (49 : Int32).toInt = 49 by decide]
      omega
    · rw [ok h]
      rcases h.2.2 with z | z <;> rw [z] <;> decide
  have rv : rok t x → rfh t x = byt t (x.2.1 - 1) - 48 ∧ rfh t x ≠ -1 ∧ (rfh t x).toInt = (byt t (x.2.1 - 1)).toInt - 48 := fun h => by
    unfold rfh
    rw [if_pos h]
    rcases h.2.2 with z | z <;> rw [z] <;> exact ⟨rfl, by decide, by decide⟩
  refine ⟨⟨fun h => (rv (((main h.1).1).mp h.2)).2.1, fun h => ?_⟩, fun h => ?_⟩
  · have hr := (rfh_b h).1
    have hs : srt t x.1 = 2 := (srt2 hT hx).mpr hr.2.1
    exact ⟨hs, ((main hs).1).mpr hr⟩
  · have hr := (rfh_b h).1
    have hs : srt t x.1 = 2 := (srt2 hT hx).mpr hr.2.1
    rw [(main hs).2 hr, (rv hr).2.2]
section COND9
variable {σ σ' σ0 : Hp} {a : Nat} {e : Nat → Nat} {g : G1} {t : G2} {sh : SHT} {rl : RLT} {sc : SCT} {x : PS} {k : Nat} {op : Nat → Nat}
theorem C9.w80 (hC : C9 σ0 a e g t sh rl sc) (h : R9x σ0 a e t σ x k op) {y : Int64} {N : Int} {w : List Int32} (hy : y.toInt = N) (hw : (srt t x.1 = 1 ∧ wth t x = N) ↔ wrd t x w) {post : Int32 → Hp → Prop} (h1 : wrd t x w → post 1 σ) (h0 : ¬ wrd t x w → post 0 σ) : J_X9_isWord_80 post a y σ := by
  have h36 : gi σ a 36 = nI (srt t x.1) := h.2.2.2.2.1
  have h37 : (gl σ a 37).toInt = wth t x := h.2.2.2.2.2
  have h3 := srt_le t x.1
  unfold J_X9_isWord_80
  rw [h36, show (1 : Int32) = nI 1 from rfl, nI_k (by omega) (by decide), lg_cmp_eq, leq, h37, hy]
  exact ⟨(hC.L h.1).1, fun z => h0 (fun u => z (hw.mpr u).1), fun z => ⟨fun u => h0 (fun v => u (hw.mpr v).2), fun u => h1 (hw.mp ⟨z, u⟩)⟩⟩
theorem C9.wordV (hC : C9 σ0 a e g t sh rl sc) (h : R9x σ0 a e t σ x k op) (hx : TKW t x) {post : Int32 → Hp → Prop} (h1 : wrd t x wV → post 1 σ) (h0 : ¬ wrd t x wV → post 0 σ) : P_X9_isWord a 118 0 0 0 σ post := by
  unfold P_X9_isWord J_X9_isWord_30 J_X9_isWord_54
  exact ⟨fun z => absurd rfl z, fun _ => ⟨fun z => absurd rfl z, fun _ => ⟨fun z => absurd rfl z, fun _ => hC.w80 h (by decide) (wV_c hC.2 hx) h1 h0⟩⟩⟩
theorem C9.wordU (hC : C9 σ0 a e g t sh rl sc) (h : R9x σ0 a e t σ x k op) (hx : TKW t x) {post : Int32 → Hp → Prop} (h1 : wrd t x wU → post 1 σ) (h0 : ¬ wrd t x wU → post 0 σ) : P_X9_isWord a 117 112 0 0 σ post := by
  unfold P_X9_isWord J_X9_isWord_30 J_X9_isWord_54
  exact ⟨fun _ => ⟨fun z => absurd rfl z, fun _ => ⟨fun z => absurd rfl z, fun _ => hC.w80 h (by decide) (wU_c hC.2 hx) h1 h0⟩⟩, fun z => absurd z (by decide)⟩
theorem C9.wordD (hC : C9 σ0 a e g t sh rl sc) (h : R9x σ0 a e t σ x k op) (hx : TKW t x) {post : Int32 → Hp → Prop} (h1 : wrd t x wD → post 1 σ) (h0 : ¬ wrd t x wD → post 0 σ) : P_X9_isWord a 100 111 119 110 σ post := by
  unfold P_X9_isWord J_X9_isWord_30 J_X9_isWord_54
  exact ⟨fun _ => ⟨fun _ => ⟨fun _ => hC.w80 h (by decide) (wD_c hC.2 hx) h1 h0, fun z => absurd z (by decide)⟩, fun z => absurd z (by decide)⟩, fun z => absurd z (by decide)⟩
end COND9
