section PAPER9B
variable {σ σ' σ0 : Hp} {a : Nat} {e : Nat → Nat} {g : G1} {t : G2} {sh : SHT} {rl : RLT} {sc : SCT} {st st' : PST} {k : Nat} {fr : FRT}
theorem upf_s {x : Nat × Int32 × Int32} : upf fr k x k = x := if_pos rfl
theorem upf_n {x : Nat × Int32 × Int32} {j : Nat} (h : j ≠ k) : upf fr k x j = fr j := if_neg h
theorem upf_u {x y : Nat × Int32 × Int32} : upf (upf fr k x) k y = upf fr k y := by
  funext j
  unfold upf
  split
  · rfl
  · rfl
/-- the item of the top frame becomes another -/
theorem N9.w45 {row : Nat} {it at1 v : Int32} (h : N9 σ0 a e g t sh rl sc σ st (k + 1) (upf fr k (row, it, at1))) : N9 σ0 a e g t sh rl sc (si σ (e 45) k v) st (k + 1) (upf fr k (row, v, at1)) := by
  have hL := h.1.1
  obtain ⟨m1, m2, m3⟩ := h.2.2.2.2.1
  obtain ⟨p1, p2⟩ := h.2.2.2.2.2
  refine h.we (by decide) ⟨by rw [hL.eo (by decide)]; exact m1, fun j hj => by rw [hL.ea (by decide) (by decide) (by decide), hL.ea (by decide) (by decide) (by decide)]; exact m2 j hj, fun r hr => by rw [hL.ea (by decide) (by decide) (by decide)]; exact m3 r hr⟩ ⟨by rw [hL.eo (by decide)]; exact p1, fun j hj => ?_⟩
  rw [hL.ea (i := 44) (by decide) (by decide) (by decide), hL.ea (i := 46) (by decide) (by decide) (by decide)]
  have := p2 j hj
  by_cases hjk : j = k
  · subst hjk
    rw [upf_s] at this ⊢
    exact ⟨this.1, gi_ss, this.2.2⟩
  · rw [upf_n hjk] at this ⊢
    rw [gi_sk hjk]; exact this
theorem N9.w46 {row : Nat} {it at1 v : Int32} (h : N9 σ0 a e g t sh rl sc σ st (k + 1) (upf fr k (row, it, at1))) : N9 σ0 a e g t sh rl sc (si σ (e 46) k v) st (k + 1) (upf fr k (row, it, v)) := by
  have hL := h.1.1
  obtain ⟨m1, m2, m3⟩ := h.2.2.2.2.1
  obtain ⟨p1, p2⟩ := h.2.2.2.2.2
  refine h.we (by decide) ⟨by rw [hL.eo (by decide)]; exact m1, fun j hj => by rw [hL.ea (by decide) (by decide) (by decide), hL.ea (by decide) (by decide) (by decide)]; exact m2 j hj, fun r hr => by rw [hL.ea (by decide) (by decide) (by decide)]; exact m3 r hr⟩ ⟨by rw [hL.eo (by decide)]; exact p1, fun j hj => ?_⟩
  rw [hL.ea (by decide) (by decide) (by decide), hL.ea (by decide) (by decide) (by decide)]
  have := p2 j hj
  by_cases hjk : j = k
  · subst hjk
    rw [upf_s] at this ⊢
    exact ⟨this.1, this.2.1, gi_ss⟩
  · rw [upf_n hjk] at this ⊢
    rw [gi_sk hjk]; exact this
/-- a part begins: row noted, mark written, a frame pushed; or only a mark -/
theorem N9.begin {p row : Nat} {post : Hp → Prop} (h : N9 σ0 a e g t sh rl sc σ st k fr) (hk : k < 8) (hp1 : p < sh.1) (h20 : sh.1 ≤ 20) (hr : row < g.1.1) (hy : st.2 row = true → ∀ σ', N9 σ0 a e g t sh rl sc σ' (pad st (20000 + nI row) (-1)) k fr → post σ') (hn : ¬ st.2 row = true → ∀ σ', N9 σ0 a e g t sh rl sc σ' (gB st row) (k + 1) (upf fr k (row, nxt sh.2.2.2 p sh.2.2.1 0, 0)) → post σ') : P_X9_begin a (nI p) (nI row) σ post := by
  have hL := h.1.1
  have h60 : g.1.1 ≤ 60 := h.1.2.1.2.1
  obtain ⟨m1, m2, m3⟩ := h.2.2.2.2.1
  obtain ⟨p1, p2⟩ := h.2.2.2.2.2
  have hcr : (nI row).toNatClampNeg = row := clN (by omega)
  have hvr : ∀ n, 60 ≤ n → n < 2147483648 → vp_in (nI row) n := fun n h1 h2 => vinN (by omega) h2
  unfold P_X9_begin
  rw [hcr]
  refine ⟨hL.1, e 43, hL.r 43 rfl, 60, hL.k 43 rfl, hvr _ (by decide) (by decide), fun z => ⟨hvr _ (by decide) (by decide), ?_⟩, fun z => ?_⟩
  · rw [m3 row (by omega)] at z
    have hb : ¬ st.2 row = true := fun y => by rw [if_pos y] at z; exact absurd z (by decide)
    have s1 := h.we (j := 43) (q := row) (v := 1) (by decide) (st' := (st.1, fun r => if r = row then true else st.2 r)) (k' := k) (fr' := fr) ⟨by rw [hL.eo (by decide)]; exact m1, fun j hj => by rw [hL.ea (by decide) (by decide) (by decide), hL.ea (by decide) (by decide) (by decide)]; exact m2 j hj, fun r hr => ?_⟩ ⟨by rw [hL.eo (by decide)]; exact p1, fun j hj => by rw [hL.ea (by decide) (by decide) (by decide), hL.ea (by decide) (by decide) (by decide), hL.ea (by decide) (by decide) (by decide)]; exact p2 j hj⟩
    rotate_left
    · show _ = if (if r = row then true else st.2 r) = true then (1 : Int32) else 0
      by_cases hrr : r = row
      · rw [if_pos hrr, if_pos rfl, hrr]; exact gi_ss
      · rw [if_neg hrr, gi_sk hrr]; exact m3 r hr
    refine s1.write (v := 10000 + nI row) (w := -1) (fun σ2 h2 => ?_)
    have hL2 := h2.1.1
    obtain ⟨q1, q2, q3⟩ := h2.2.2.2.2.1
    obtain ⟨u1, u2⟩ := h2.2.2.2.2.2
    have hvk : vp_in (nI k) 8 := vinN hk (by decide)
    refine ⟨hL2.1, e 44, hL2.r 44 rfl, 8, hL2.k 44 rfl, by rw [u1]; exact hvk, e 16, hL2.r 16 rfl, 20, hL2.k 16 rfl, vinN (by omega) (by decide), e 45, hL2.r 45 rfl, 8, hL2.k 45 rfl, by rw [u1]; exact hvk, e 46, hL2.r 46 rfl, 8, hL2.k 46 rfl, by rw [u1]; exact hvk, ?_⟩
    rw [u1, clN (show k < 2147483648 by omega), clN (show p < 2147483648 by omega), nI_1, hL2.ea (by decide) (by decide) (by decide), (h2.1.2.2.2.2.1.2.1 p hp1).2]
    have s3 := h2.we (j := 44) (q := k) (v := nI row) (by decide) (st' := gB st row) (k' := k) (fr' := fr) ⟨by rw [hL2.eo (by decide)]; exact q1, fun j hj => by rw [hL2.ea (by decide) (by decide) (by decide), hL2.ea (by decide) (by decide) (by decide)]; exact q2 j hj, fun r hr => by rw [hL2.ea (by decide) (by decide) (by decide)]; exact q3 r hr⟩ ⟨by rw [hL2.eo (by decide)]; exact u1, fun j hj => by rw [hL2.ea (i := 45) (by decide) (by decide) (by decide), hL2.ea (i := 46) (by decide) (by decide) (by decide), gi_sk (by omega)]; exact u2 j hj⟩
    have r44 : gi (si σ2 (e 44) k (nI row)) (e 44) k = nI row := gi_ss
    have hL3 := s3.1.1
    obtain ⟨q1, q2, q3⟩ := s3.2.2.2.2.1
    obtain ⟨u1, u2⟩ := s3.2.2.2.2.2
    generalize si σ2 (e 44) k (nI row) = σ3 at s3 r44 hL3 q1 q2 q3 u1 u2 ⊢
    generalize nxt sh.2.2.2 p sh.2.2.1 0 = x at hn ⊢
    have s4 := s3.we (j := 45) (q := k) (v := x) (by decide) (st' := gB st row) (k' := k) (fr' := fr) ⟨by rw [hL3.eo (by decide)]; exact q1, fun j hj => by rw [hL3.ea (by decide) (by decide) (by decide), hL3.ea (by decide) (by decide) (by decide)]; exact q2 j hj, fun r hr => by rw [hL3.ea (by decide) (by decide) (by decide)]; exact q3 r hr⟩ ⟨by rw [hL3.eo (by decide)]; exact u1, fun j hj => by rw [hL3.ea (i := 44) (by decide) (by decide) (by decide), hL3.ea (i := 46) (by decide) (by decide) (by decide), gi_sk (by omega)]; exact u2 j hj⟩
    have r45 : gi (si σ3 (e 45) k x) (e 45) k = x := gi_ss
    have r44' : gi (si σ3 (e 45) k x) (e 44) k = nI row := by rw [hL3.ea (by decide) (by decide) (by decide)]; exact r44
    have hL4 := s4.1.1
    obtain ⟨q1, q2, q3⟩ := s4.2.2.2.2.1
    obtain ⟨u1, u2⟩ := s4.2.2.2.2.2
    generalize si σ3 (e 45) k x = σ4 at s4 r45 r44' hL4 q1 q2 q3 u1 u2 ⊢
    have s5 := s4.we (j := 46) (q := k) (v := 0) (by decide) (st' := gB st row) (k' := k) (fr' := fr) ⟨by rw [hL4.eo (by decide)]; exact q1, fun j hj => by rw [hL4.ea (by decide) (by decide) (by decide), hL4.ea (by decide) (by decide) (by decide)]; exact q2 j hj, fun r hr => by rw [hL4.ea (by decide) (by decide) (by decide)]; exact q3 r hr⟩ ⟨by rw [hL4.eo (by decide)]; exact u1, fun j hj => by rw [hL4.ea (by decide) (by decide) (by decide), hL4.ea (by decide) (by decide) (by decide), gi_sk (by omega)]; exact u2 j hj⟩
    have r46 : gi (si σ4 (e 46) k 0) (e 46) k = 0 := gi_ss
    have r45' : gi (si σ4 (e 46) k 0) (e 45) k = x := by rw [hL4.ea (by decide) (by decide) (by decide)]; exact r45
    have r44'' : gi (si σ4 (e 46) k 0) (e 44) k = nI row := by rw [hL4.ea (by decide) (by decide) (by decide)]; exact r44'
    have hL5 := s5.1.1
    obtain ⟨q1, q2, q3⟩ := s5.2.2.2.2.1
    obtain ⟨u1, u2⟩ := s5.2.2.2.2.2
    generalize si σ4 (e 46) k 0 = σ5 at s5 r46 r45' r44'' hL5 q1 q2 q3 u1 u2 ⊢
    refine hn hb _ (s5.wa (by decide) ⟨by rw [gi_sk (by decide)]; exact q1, fun j hj => by rw [hL5.oa (by decide), hL5.oa (by decide)]; exact q2 j hj, fun r hr => by rw [hL5.oa (by decide)]; exact q3 r hr⟩ ⟨gi_ss, fun j hj => ?_⟩)
    rw [hL5.oa (by decide), hL5.oa (by decide), hL5.oa (by decide)]
    by_cases hjk : j = k
    · subst hjk
      rw [upf_s]; exact ⟨r44'', r45', r46⟩
    · rw [upf_n hjk]; exact u2 j (by omega)
  · rw [m3 row (by omega)] at z
    have hb : st.2 row = true := Classical.byContradiction fun y => z (if_neg y)
    exact h.write (hy hb)
/-- the next row of an item: by a reference up -/
theorem T9.nextUp {i row : Nat} {at1 : Int32} {post : Int32 → Hp → Prop} (h : T9 σ a e g t sh rl sc) (hW : WFR g.1) (hi : i < sh.2.2.1) (h100 : sh.2.2.1 ≤ 100) (h20 : sh.1 ≤ 20) (hk : (sh.2.2.2 i).2.1 = 1) (hr1 : (sh.2.2.2 i).2.2.1 ≤ 1) (hp1 : (sh.2.2.2 i).2.2.2 < sh.1) (hr : row < g.1.1)
    (h1 : ¬ at1 = 0 → post (-1) σ) (h2 : at1 = 0 → post (if upok g.1 (sh.2.1 (sh.2.2.2 i).2.2.2) (rf (g.1.2 row) (sh.2.2.2 i).2.2.1) then rf (g.1.2 row) (sh.2.2.2 i).2.2.1 else -1) σ) : P_X9_nextRow a (nI i) (nI row) at1 σ post := by
  have hL := h.1
  have h60 : g.1.1 ≤ 60 := h.2.1.2.1
  obtain ⟨i1, i2, -⟩ := h.2.2.2.2.1.2.2 i hi
  obtain ⟨i3, i4⟩ := i2 (by omega)
  obtain ⟨d1, d2, d3, d4, d5⟩ := h.2.1.2.2 row hr
  have hw := hW.2 row hr
  unfold P_X9_nextRow
  refine ⟨hL.1, e 19, hL.r 19 rfl, 200, hL.k 19 rfl, vinN (by omega) (by decide), e 17, hL.r 17 rfl, 200, hL.k 17 rfl, vinN (by omega) (by decide), fun z => ?_, fun z => ⟨e 18, hL.r 18 rfl, 200, hL.k 18 rfl, vinN (by omega) (by decide), e 12, hL.r 12 rfl, 120, hL.k 12 rfl, ?_⟩⟩
  · rw [clN (by omega), i1, hk] at z; exact absurd rfl z
  · have hm : ((2 : Int32) * nI row) + nI (sh.2.2.2 i).2.2.1 = nI (2 * row + (sh.2.2.2 i).2.2.1) := by rw [← nI_add, ← pk_mul]; rfl
    have hrf : gi σ (e 12) (2 * row + (sh.2.2.2 i).2.2.1) = rf (g.1.2 row) (sh.2.2.2 i).2.2.1 := by
      unfold rf
      by_cases h0 : (sh.2.2.2 i).2.2.1 = 0
      · rw [h0, if_pos rfl]; exact d3
      · rw [if_neg h0, show (sh.2.2.2 i).2.2.1 = 1 by omega]; exact d4
    have hto : rf (g.1.2 row) (sh.2.2.2 i).2.2.1 = -1 ∨ ∃ j, j < g.1.1 ∧ rf (g.1.2 row) (sh.2.2.2 i).2.2.1 = nI j := by
      unfold rf
      split
      · exact hw.2.1
      · exact hw.2.2.1
    rw [clN (by omega), i3, i4, hm, clN (show 2 * row + (sh.2.2.2 i).2.2.1 < 2147483648 by omega), clN (show (sh.2.2.2 i).2.2.2 < 2147483648 by omega), hrf]
    refine ⟨vinN (by omega) (by decide), h1, fun z => ?_⟩
    have h2 := h2 z
    rcases hto with hto | ⟨j, hj, hto⟩
    · rw [hto] at h2 ⊢
      rw [if_neg (fun y => absurd y.1.1.1 (by decide))] at h2
      exact ⟨fun _ => h2, fun y => absurd rfl y⟩
    · rw [hto] at h2 ⊢
      have hjt : (nI j).toInt = (j : Int) := nIi (by omega)
      rw [clN (show j < 2147483648 by omega)]
      obtain ⟨c1, c2, c3, c4, c5⟩ := h.2.1.2.2 j hj
      refine ⟨fun y => ?_, fun _ => ⟨e 13, hL.r 13 rfl, 60, hL.k 13 rfl, vinN (by omega) (by decide), fun y => ?_, fun y => ⟨e 10, hL.r 10 rfl, 60, hL.k 10 rfl, vinN (by omega) (by decide), e 15, hL.r 15 rfl, 20, hL.k 15 rfl, vinN (by omega) (by decide), fun x => ?_, fun x => ?_⟩⟩⟩
      · rw [ieq, hjt, show (-1 : Int32).toInt = -1 by decide] at y; omega
      · rw [c5] at y
        rw [if_neg (fun w => w.1.2 (by rw [clN (by omega)]; exact y))] at h2
        exact h2
      · rw [c1, (h.2.2.2.2.1.2.1 _ hp1).1] at x
        rw [if_neg (fun w => x (by have := w.2; rwa [clN (by omega)] at this))] at h2
        exact h2
      · rw [c1, (h.2.2.2.2.1.2.1 _ hp1).1] at x
        rw [c5] at y
        rw [if_pos ⟨⟨⟨by omega, by omega⟩, by rw [clN (by omega)]; exact y⟩, by rw [clN (by omega)]; exact x⟩] at h2
        exact h2
/-- the next row of an item: of those that refer to it -/
theorem T9.nextDn {i row v : Nat} {post : Int32 → Hp → Prop} (h : T9 σ a e g t sh rl sc) (hi : i < sh.2.2.1) (h100 : sh.2.2.1 ≤ 100) (h20 : sh.1 ≤ 20) (hk : (sh.2.2.2 i).2.1 = 2) (hr1 : (sh.2.2.2 i).2.2.1 ≤ 1) (hp1 : (sh.2.2.2 i).2.2.2 < sh.1) (hr : row < g.1.1) {m : Nat} (hv : v + m = g.1.1)
    (hp : post (fsd (dnok g.1 (sh.2.1 (sh.2.2.2 i).2.2.2) (sh.2.2.2 i).2.2.1 row) m v) σ) : P_X9_nextRow a (nI i) (nI row) (nI v) σ post := by
  have hL := h.1
  have h60 : g.1.1 ≤ 60 := h.2.1.2.1
  obtain ⟨i1, i2, -⟩ := h.2.2.2.2.1.2.2 i hi
  obtain ⟨i3, i4⟩ := i2 (by omega)
  unfold P_X9_nextRow
  refine ⟨hL.1, e 19, hL.r 19 rfl, 200, hL.k 19 rfl, vinN (by omega) (by decide), e 17, hL.r 17 rfl, 200, hL.k 17 rfl, vinN (by omega) (by decide), fun z => ?_, fun z => ?_⟩
  rotate_left
  · rw [clN (by omega), i1, hk] at z; exact absurd z (by decide)
  rw [clN (by omega), i4]
  intro I hI
  have key : ∀ m v, v + m = g.1.1 → post (fsd (dnok g.1 (sh.2.1 (sh.2.2.2 i).2.2.2) (sh.2.2.2 i).2.2.1 row) m v) σ → I (nI v) σ := by
    intro m
    induction m with
    | zero =>
      intro v hv hp
      obtain rfl : v = g.1.1 := by omega
      refine hI _ _ ⟨hL.1, fun _ => hp, fun z => ?_⟩
      rw [h.2.1.1] at z
      exact absurd (nI_le (Nat.le_refl _) (by omega)) z
    | succ m ih =>
      intro v hv hp
      obtain ⟨c1, c2, c3, c4, c5⟩ := h.2.1.2.2 v (by omega)
      have hvt : (nI v).toInt = (v : Int) := nIi (by omega)
      rw [show fsd (dnok g.1 (sh.2.1 (sh.2.2.2 i).2.2.2) (sh.2.2.2 i).2.2.1 row) (m + 1) v = if dnok g.1 (sh.2.1 (sh.2.2.2 i).2.2.2) (sh.2.2.2 i).2.2.1 row v = true then nI v else fsd (dnok g.1 (sh.2.1 (sh.2.2.2 i).2.2.2) (sh.2.2.2 i).2.2.1 row) m (v + 1) from rfl] at hp
      have skip : ¬ (upok g.1 (sh.2.1 (sh.2.2.2 i).2.2.2) (nI v) ∧ rf (g.1.2 v) (sh.2.2.2 i).2.2.1 = nI row) → I (nI v + 1) σ := fun hn => by
        rw [if_neg (by unfold dnok; rw [decide_eq_true_eq]; exact hn)] at hp
        rw [nI_1]
        exact ih (v + 1) (by omega) hp
      have hm : ((2 : Int32) * nI v) + nI (sh.2.2.2 i).2.2.1 = nI (2 * v + (sh.2.2.2 i).2.2.1) := by rw [← nI_add, ← pk_mul]; rfl
      have hrf : gi σ (e 12) (2 * v + (sh.2.2.2 i).2.2.1) = rf (g.1.2 v) (sh.2.2.2 i).2.2.1 := by
        unfold rf
        by_cases h0 : (sh.2.2.2 i).2.2.1 = 0
        · rw [h0, if_pos rfl]; exact c3
        · rw [if_neg h0, show (sh.2.2.2 i).2.2.1 = 1 by omega]; exact c4
      refine hI _ _ ⟨hL.1, fun z => ?_, fun _ => ⟨e 13, hL.r 13 rfl, 60, hL.k 13 rfl, vinN (by omega) (by decide), fun z => ?_, fun z => ⟨e 10, hL.r 10 rfl, 60, hL.k 10 rfl, vinN (by omega) (by decide), e 15, hL.r 15 rfl, 20, hL.k 15 rfl, vinN (by omega) (by decide), fun y => ?_, fun y => ⟨e 18, hL.r 18 rfl, 200, hL.k 18 rfl, vinN (by omega) (by decide), e 12, hL.r 12 rfl, 120, hL.k 12 rfl, ?_⟩⟩⟩⟩
      · rw [h.2.1.1] at z; exact absurd z (nI_ge (by omega) (by omega))
      · rw [clN (by omega), c5] at z
        exact skip (fun w => w.1.1.2 (by rw [clN (by omega)]; exact z))
      · rw [clN (by omega), clN (by omega), c1, (h.2.2.2.2.1.2.1 _ hp1).1] at y
        refine skip (fun w => y ?_)
        have := w.1.2
        rwa [clN (by omega)] at this
      · rw [clN (by omega), c5] at z
        rw [clN (by omega), clN (by omega), c1, (h.2.2.2.2.1.2.1 _ hp1).1] at y
        rw [clN (show i < 2147483648 by omega), i3, hm, clN (show 2 * v + (sh.2.2.2 i).2.2.1 < 2147483648 by omega), hrf]
        refine ⟨vinN (by omega) (by decide), fun x => skip (fun w => x w.2), fun x => ?_⟩
        rw [if_pos (by unfold dnok; rw [decide_eq_true_eq]; exact ⟨⟨⟨⟨by omega, by omega⟩, by rw [clN (by omega)]; exact z⟩, by rw [clN (by omega)]; exact y⟩, x⟩)] at hp
        exact hp
  exact key m v hv hp
end PAPER9B
