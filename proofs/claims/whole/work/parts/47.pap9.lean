/-! the reference's paper -/
/-- a frame of the pile: its row, its item, how far -/
abbrev FRT : Type := Nat → Nat × Int32 × Int32
def upf (fr : FRT) (k : Nat) (x : Nat × Int32 × Int32) : FRT := fun j => if j = k then x else fr j
def M9 (σ : Hp) (a : Nat) (e : Nat → Nat) (st : PST) : Prop := gi σ a 40 = nI (cut st.1) ∧ (∀ j, j < cut st.1 → gi σ (e 41) j = mk1 st.1 j ∧ gi σ (e 42) j = mk2 st.1 j) ∧ ∀ r, r < 60 → gi σ (e 43) r = if st.2 r = true then 1 else 0
def PL9 (σ : Hp) (a : Nat) (e : Nat → Nat) (k : Nat) (fr : FRT) : Prop := gi σ a 47 = nI k ∧ ∀ j, j < k → gi σ (e 44) j = nI (fr j).1 ∧ gi σ (e 45) j = (fr j).2.1 ∧ gi σ (e 46) j = (fr j).2.2
def N9 (σ0 : Hp) (a : Nat) (e : Nat → Nat) (g : G1) (t : G2) (sh : SHT) (rl : RLT) (sc : SCT) (σ : Hp) (st : PST) (k : Nat) (fr : FRT) : Prop := T9 σ a e g t sh rl sc ∧ SK σ0 σ ∧ Fr (W9 a e) σ0 σ ∧ (∀ j, gi σ (e 54) j = gi σ0 (e 54) j) ∧ M9 σ a e st ∧ PL9 σ a e k fr
/-- the first that is ok, from v on -/
def fsd (ok : Nat → Bool) : Nat → Nat → Int32
  | 0, _ => -1
  | m + 1, v => if ok v = true then nI v else fsd ok m (v + 1)
theorem fsd_spec (ok : Nat → Bool) : ∀ m v, (fsd ok m v = -1 ∧ ∀ f st, fo ok f m v st = st) ∨ ∃ v' m', v' + m' + 1 = v + m ∧ v ≤ v' ∧ ok v' = true ∧ fsd ok m v = nI v' ∧ ∀ f st, fo ok f m v st = fo ok f m' (v' + 1) (f v' st)
  | 0, v => Or.inl ⟨rfl, fun _ _ => rfl⟩
  | m + 1, v => by
    by_cases h : ok v = true
    · refine Or.inr ⟨v, m, by omega, Nat.le_refl _, h, ?_, fun f st => ?_⟩
      · unfold fsd; rw [if_pos h]
      · rw [show fo ok f (m + 1) v st = fo ok f m (v + 1) (if ok v = true then f v st else st) from rfl, if_pos h]
    · have e1 : fsd ok (m + 1) v = fsd ok m (v + 1) := by
        rw [show fsd ok (m + 1) v = if ok v = true then nI v else fsd ok m (v + 1) from rfl, if_neg h]
      have e2 : ∀ f st, fo ok f (m + 1) v st = fo ok f m (v + 1) st := fun f st => by
        rw [show fo ok f (m + 1) v st = fo ok f m (v + 1) (if ok v = true then f v st else st) from rfl, if_neg h]
      rcases fsd_spec ok m (v + 1) with ⟨h1, h2⟩ | ⟨v', m', h1, h2, h3, h4, h5⟩
      · exact Or.inl ⟨by rw [e1]; exact h1, fun f st => by rw [e2]; exact h2 f st⟩
      · exact Or.inr ⟨v', m', by omega, by omega, h3, by rw [e1]; exact h4, fun f st => by rw [e2]; exact h5 f st⟩
section PAPER9
variable {σ σ' σ0 : Hp} {a : Nat} {e : Nat → Nat} {g : G1} {t : G2} {sh : SHT} {rl : RLT} {sc : SCT} {st st' : PST} {k : Nat} {fr : FRT}
theorem T9.wa (h : T9 σ a e g t sh rl sc) {q : Nat} (v : Int32) (hq : q ∉ [1, 2, 9, 14, 33, 38, 48, 53]) : T9 (si σ a q v) a e g t sh rl sc := by
  have hq' : ∀ j ∈ [1, 2, 9, 14, 33, 38, 48, 53], j ≠ q := fun j hj z => hq (by rw [← z]; exact hj)
  refine h.scr (SK.wi _ _ _) (fun k hk => gi_sk (hq' k (by simp at hk ⊢; omega))) (fun j hj k => gi_sa (h.1.na j (k9_l j hj))) ?_
  obtain ⟨h1, h2, h3⟩ := h.2.2.2.2.2.2
  exact ⟨by rw [gi_sk (hq' 53 (by decide))]; exact h1, by rw [gi_sk (hq' 38 (by decide))]; exact h2, by rw [gi_sk (hq' 1 (by decide))]; exact h3⟩
theorem T9.we (h : T9 σ a e g t sh rl sc) {j q : Nat} (v : Int32) (hj : k9 j ≠ none) (hn : j ∉ [3, 4, 5, 6, 7, 8, 10, 11, 12, 13, 15, 16, 17, 18, 19, 20, 32, 49, 50, 51, 52]) : T9 (si σ (e j) q v) a e g t sh rl sc := by
  have na : a ≠ e j := Ne.symm (h.1.na j hj)
  refine h.scr (SK.wi _ _ _) (fun k hk => gi_sa na) (fun i hi k => gi_sa (h.1.ne (k9_l i hi) hj (fun z => hn (by rw [← z]; exact hi)))) ?_
  obtain ⟨h1, h2, h3⟩ := h.2.2.2.2.2.2
  exact ⟨by rw [gi_sa na]; exact h1, by rw [gi_sa na]; exact h2, by rw [gi_sa na]; exact h3⟩
theorem N9.wa (h : N9 σ0 a e g t sh rl sc σ st k fr) {q : Nat} {v : Int32} (hq : q ∉ [1, 2, 9, 14, 33, 38, 48, 53]) {st' : PST} {k' : Nat} {fr' : FRT} (hM : M9 (si σ a q v) a e st') (hP : PL9 (si σ a q v) a e k' fr') : N9 σ0 a e g t sh rl sc (si σ a q v) st' k' fr' := by
  obtain ⟨h1, h2, h3, h4, h5, h6⟩ := h
  exact ⟨h1.wa v hq, h2.tr (SK.wi _ _ _), h3.ob _ _, fun j => by rw [gi_sa (h1.1.na 54 (by decide))]; exact h4 j, hM, hP⟩
theorem N9.we (h : N9 σ0 a e g t sh rl sc σ st k fr) {j q : Nat} {v : Int32} (hj : 41 ≤ j ∧ j ≤ 46) {st' : PST} {k' : Nat} {fr' : FRT} (hM : M9 (si σ (e j) q v) a e st') (hP : PL9 (si σ (e j) q v) a e k' fr') : N9 σ0 a e g t sh rl sc (si σ (e j) q v) st' k' fr' := by
  obtain ⟨h1, h2, h3, h4, h5, h6⟩ := h
  have hk : k9 j ≠ none := by
    rcases (show j = 41 ∨ j = 42 ∨ j = 43 ∨ j = 44 ∨ j = 45 ∨ j = 46 by omega) with rfl | rfl | rfl | rfl | rfl | rfl <;> decide
  exact ⟨h1.we v hk (by simp; omega), h2.tr (SK.wi _ _ _), h3.wi _ (Or.inr ⟨j, hk, rfl⟩), fun i => by rw [gi_sa (h1.1.ne (by decide) hk (by omega))]; exact h4 i, hM, hP⟩
/-- reads through a write of the scratch -/
theorem L9.ea (h : L9 σ a e) {i j q z : Nat} {v : Int32} (hi : k9 i ≠ none) (hj : k9 j ≠ none) (hij : i ≠ j) : gi (si σ (e j) q v) (e i) z = gi σ (e i) z := gi_sa (h.ne hi hj hij)
theorem L9.oa (h : L9 σ a e) {i q z : Nat} {v : Int32} (hi : k9 i ≠ none) : gi (si σ a q v) (e i) z = gi σ (e i) z := gi_sa (h.na i hi)
theorem L9.eo (h : L9 σ a e) {j q z : Nat} {v : Int32} (hj : k9 j ≠ none) : gi (si σ (e j) q v) a z = gi σ a z := gi_sa (Ne.symm (h.na j hj))
theorem N9.full (h : N9 σ0 a e g t sh rl sc σ st k fr) (hf : ¬ st.1.length < 600) (hp : st.1 <+: st'.1) (h2 : st'.2 = st.2) : N9 σ0 a e g t sh rl sc σ st' k fr := by
  obtain ⟨h1, h3, h4, h5, ⟨m1, m2, m3⟩, h6⟩ := h
  obtain ⟨e1, e2, e3⟩ := pre_cut hp hf
  exact ⟨h1, h3, h4, h5, ⟨by rw [e1]; exact m1, fun j hj => by rw [e1] at hj; rw [e2 j hj, e3 j hj]; exact m2 j hj, by rw [h2]; exact m3⟩, h6⟩
theorem N9.write {v w : Int32} {post : Hp → Prop} (h : N9 σ0 a e g t sh rl sc σ st k fr) (hp : ∀ σ', N9 σ0 a e g t sh rl sc σ' (pad st v w) k fr → post σ') : P_X9_write a v w σ post := by
  have hL := h.1.1
  obtain ⟨m1, m2, m3⟩ := h.2.2.2.2.1
  obtain ⟨p1, p2⟩ := h.2.2.2.2.2
  have hcl := cut_le st.1
  unfold P_X9_write
  rw [m1, ile, nIi (show cut st.1 < 2147483648 by omega), show (600 : Int32).toInt = 600 by decide]
  refine ⟨hL.1, fun z => ?_, fun z => ⟨e 41, hL.r 41 rfl, 600, hL.k 41 rfl, vinN (by omega) (by decide), e 42, hL.r 42 rfl, 600, hL.k 42 rfl, vinN (by omega) (by decide), ?_⟩⟩
  · have hl : ¬ st.1.length < 600 := by unfold cut at z; split at z <;> omega
    exact hp _ (h.full hl (pad_pre _ _ _) rfl)
  · have hl : st.1.length < 600 := by unfold cut at z; split at z <;> omega
    rw [clN (by omega), nI_1]
    obtain ⟨e1, e2, e3, e4⟩ := pad_cut st v w hl
    have s1 := h.we (j := 41) (q := cut st.1) (v := v) (by decide) (st' := (st.1, st.2)) (k' := k) (fr' := fr) ⟨by rw [hL.eo (by decide)]; exact m1, fun j hj => ⟨by have hj : j < cut st.1 := hj; rw [gi_sk (by omega)]; exact (m2 j hj).1, by rw [hL.ea (by decide) (by decide) (by decide)]; exact (m2 j hj).2⟩, fun r hr => by rw [hL.ea (by decide) (by decide) (by decide)]; exact m3 r hr⟩ ⟨by rw [hL.eo (by decide)]; exact p1, fun j hj => by rw [hL.ea (by decide) (by decide) (by decide), hL.ea (by decide) (by decide) (by decide), hL.ea (by decide) (by decide) (by decide)]; exact p2 j hj⟩
    have hL1 := s1.1.1
    have r1 : gi (si σ (e 41) (cut st.1) v) (e 41) (cut st.1) = v := gi_ss
    obtain ⟨m1, m2, m3⟩ := s1.2.2.2.2.1
    obtain ⟨p1, p2⟩ := s1.2.2.2.2.2
    generalize si σ (e 41) (cut st.1) v = σ1 at s1 hL1 r1 m1 m2 m3 p1 p2 ⊢
    have s2 := s1.we (j := 42) (q := cut st.1) (v := w) (by decide) (st' := (st.1, st.2)) (k' := k) (fr' := fr) ⟨by rw [hL1.eo (by decide)]; exact m1, fun j hj => ⟨by rw [hL1.ea (by decide) (by decide) (by decide)]; exact (m2 j hj).1, by have hj : j < cut st.1 := hj; rw [gi_sk (by omega)]; exact (m2 j hj).2⟩, fun r hr => by rw [hL1.ea (by decide) (by decide) (by decide)]; exact m3 r hr⟩ ⟨by rw [hL1.eo (by decide)]; exact p1, fun j hj => by rw [hL1.ea (by decide) (by decide) (by decide), hL1.ea (by decide) (by decide) (by decide), hL1.ea (by decide) (by decide) (by decide)]; exact p2 j hj⟩
    have hL2 := s2.1.1
    have r2 : gi (si σ1 (e 42) (cut st.1) w) (e 42) (cut st.1) = w := gi_ss
    have r3 : gi (si σ1 (e 42) (cut st.1) w) (e 41) (cut st.1) = v := by rw [hL1.ea (by decide) (by decide) (by decide)]; exact r1
    obtain ⟨m1, m2, m3⟩ := s2.2.2.2.2.1
    obtain ⟨p1, p2⟩ := s2.2.2.2.2.2
    generalize si σ1 (e 42) (cut st.1) w = σ2 at s2 hL2 r2 r3 m1 m2 m3 p1 p2 ⊢
    refine hp _ (s2.wa (by decide) ⟨by rw [e1]; exact gi_ss, fun j hj => ?_, fun r hr => by rw [hL2.oa (by decide)]; exact m3 r hr⟩ ⟨by rw [gi_sk (by decide)]; exact p1, fun j hj => by rw [hL2.oa (by decide), hL2.oa (by decide), hL2.oa (by decide)]; exact p2 j hj⟩)
    rw [e1] at hj
    rw [hL2.oa (by decide), hL2.oa (by decide), e3 j hj, e4 j hj]
    by_cases hjc : j = cut st.1
    · rw [if_pos hjc, if_pos hjc, hjc]; exact ⟨r3, r2⟩
    · rw [if_neg hjc, if_neg hjc]; exact m2 j (by show j < cut st.1; omega)
end PAPER9
