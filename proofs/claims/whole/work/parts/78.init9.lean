/-- the reference's cells made so far -/
def IN9 (σb : Hp) (a : Nat) (D : Nat → Bool) (e : Nat → Nat) (v38 : Int32) (σ : Hp) : Prop := gk σ a = some (9, 0) ∧ Ag (fun _ => False) (fun _ => False) σb σ ∧ (∀ k, D k = true → ∃ u, k9 k = some u ∧ gr σ a k = some (e k) ∧ gk σ (e k) = some u ∧ (∀ z, gi σ (e k) z = 0) ∧ gk σb (e k) = none ∧ e k ≠ a) ∧ (∀ i j, D i = true → D j = true → e i = e j → i = j) ∧ (∀ z, z ≠ 38 → gi σ a z = 0) ∧ gi σ a 38 = v38
section INIT9
variable {σ σ' σb : Hp} {a : Nat} {D : Nat → Bool} {e : Nat → Nat} {v38 : Int32}
theorem IN9.new (h : IN9 σb a D e v38 σ) (ha : gk σb a = none) {q : Nat} (f : gk σ q = none) (k : Nat) {t n : Nat} (hk : k9 k = some (t, n)) (hD : D k = false) : IN9 σb a (upD D k) (upN e k q) v38 (sr (nw σ q t n) a k (some q)) := by
  obtain ⟨h1, h2, h3, h4, h5, h6⟩ := h
  have hqa : a ≠ q := fun z => by rw [z, f] at h1; cases h1
  have nq : ∀ i, D i = true → e i ≠ q := fun i hi z => by
    obtain ⟨u, w1, w2, w3, w4⟩ := h3 i hi
    rw [z, f] at w3; cases w3
  refine ⟨by show gk (nw σ q t n) a = _; rw [gk_nw, if_neg hqa]; exact h1, (h2.new f).wr _ (Or.inr ha), fun i hi => ?_, fun i j hi hj hij => ?_, fun z hz => ?_, ?_⟩
  · rcases upD_c hi with rfl | ⟨hn, hi⟩
    · rw [upN_s]
      refine ⟨(t, n), hk, by rw [gr_sr, if_pos ⟨rfl, rfl⟩], gk_new, fun z => by rw [gi_sr, gi_nw, if_pos rfl], h2.gone f, Ne.symm hqa⟩
    · rw [upN_n hn]
      obtain ⟨u, w1, w2, w3, w4, w5, w6⟩ := h3 i hi
      have hq := nq i hi
      refine ⟨u, w1, ?_, ?_, fun z => ?_, w5, w6⟩
      · rw [gr_sr, if_neg (fun z => hn z.2), gr_nw, if_neg hqa]; exact w2
      · show gk (nw σ q t n) (e i) = _
        rw [gk_nw, if_neg hq]; exact w3
      · rw [gi_sr, gi_nw, if_neg hq]; exact w4 z
  · rcases upD_c hi with hi1 | ⟨hn, hi1⟩
    · rcases upD_c hj with hj1 | ⟨hn', hj1⟩
      · rw [hi1, hj1]
      · rw [hi1, upN_s, upN_n hn'] at hij; exact absurd hij.symm (nq j hj1)
    · rcases upD_c hj with hj1 | ⟨hn', hj1⟩
      · rw [hj1, upN_s, upN_n hn] at hij; exact absurd hij (nq i hi1)
      · rw [upN_n hn, upN_n hn'] at hij; exact h4 i j hi1 hj1 hij
  · rw [gi_sr, gi_nw, if_neg hqa]; exact h5 z hz
  · rw [gi_sr, gi_nw, if_neg hqa]; exact h6
theorem IN9.set (h : IN9 σb a D e v38 σ) (ha : gk σb a = none) (v : Int32) : IN9 σb a D e v (si σ a 38 v) := by
  obtain ⟨h1, h2, h3, h4, h5, h6⟩ := h
  refine ⟨h1, h2.wi _ (Or.inr ha), fun i hi => ?_, h4, fun z hz => by rw [gi_sk hz]; exact h5 z hz, gi_ss⟩
  obtain ⟨u, w1, w2, w3, w4, w5, w6⟩ := h3 i hi
  exact ⟨u, w1, w2, w3, fun z => by rw [gi_sa w6]; exact w4 z, w5, w6⟩
theorem IN9.fin (h : IN9 σb a D e (-1) σ) (hD : ∀ k, k < 55 → k9 k ≠ none → D k = true) : T9 σ a e g00 t00 sh00 rl00 sc00 ∧ Ag (fun _ => False) (fun _ => False) σb σ ∧ ∀ k, k9 k ≠ none → gk σb (e k) = none := by
  obtain ⟨h1, h2, h3, h4, h5, h6⟩ := h
  have hDk : ∀ k, k9 k ≠ none → D k = true := fun k hk => hD k (Classical.byContradiction fun z => hk (k9_big (by omega))) hk
  have hh : ∀ k, k9 k ≠ none → ∃ u, k9 k = some u ∧ gr σ a k = some (e k) ∧ gk σ (e k) = some u ∧ (∀ z, gi σ (e k) z = 0) ∧ gk σb (e k) = none ∧ e k ≠ a := fun k hk => h3 k (hDk k hk)
  refine ⟨⟨⟨h1, fun k u hu => ?_, fun i j hi hj => h4 i j (hDk i hi) (hDk j hj)⟩, ⟨h5 9 (by decide), Nat.zero_le _, fun i hi => absurd hi (Nat.not_lt_zero _)⟩, ⟨h5 2 (by decide), Nat.zero_le _, fun i hi => absurd hi (Nat.not_lt_zero _)⟩, ⟨h5 33 (by decide), fun i hi => absurd hi (Nat.not_lt_zero _)⟩, ⟨h5 14 (by decide), fun i hi => absurd hi (Nat.not_lt_zero _), fun i hi => absurd hi (Nat.not_lt_zero _)⟩, ⟨h5 48 (by decide), fun i hi => absurd hi (Nat.not_lt_zero _), fun j _ _ => ?_⟩, ⟨h5 53 (by decide), h6, h5 1 (by decide)⟩⟩, h2, fun k hk => ?_⟩
  · obtain ⟨u', w1, w2, w3, w4⟩ := hh k (by rw [hu]; exact fun z => by cases z)
    rw [hu] at w1
    cases w1
    exact ⟨w2, w3⟩
  · obtain ⟨u', w1, w2, w3, w4, w5⟩ := hh 50 (by decide)
    exact w4 j
  · obtain ⟨u', w1, w2, w3, w4, w5, w6⟩ := hh k hk
    exact w5
theorem X9_init {a : Nat} {post : Hp → Prop} (ha : gk σb a = none) (hp : ∀ σ' e, T9 σ' a e g00 t00 sh00 rl00 sc00 → Ag (fun _ => False) (fun _ => False) σb σ' → (∀ k, k9 k ≠ none → gk σb (e k) = none) → post σ') : P_X9_init a (nw σb a 9 0) post := by
  have h0 : IN9 σb a (fun _ => false) (fun _ => 0) 0 (nw σb a 9 0) := ⟨gk_new, Ag.rf.new ha, fun k hk => (by cases hk), fun i j hi => (by cases hi), fun z _ => by rw [gi_nw, if_pos rfl], by rw [gi_nw, if_pos rfl]⟩
  unfold P_X9_init
  intro q1 f1
  refine ⟨?_, ?_⟩
  · have hq : a ≠ q1 := fun z => by rw [← z, gk_new] at f1; cases f1
    rw [gk_nw, if_neg hq]; exact gk_new
  have h1 := h0.new ha f1 3 rfl rfl
  intro q2 f2
  have h2 := h1.new ha f2 4 rfl rfl
  intro q3 f3
  have h3 := h2.new ha f3 5 rfl rfl
  intro q4 f4
  have h4 := h3.new ha f4 6 rfl rfl
  intro q5 f5
  have h5 := h4.new ha f5 7 rfl rfl
  intro q6 f6
  have h6 := h5.new ha f6 8 rfl rfl
  intro q7 f7
  have h7 := h6.new ha f7 10 rfl rfl
  intro q8 f8
  have h8 := h7.new ha f8 11 rfl rfl
  intro q9 f9
  have h9 := h8.new ha f9 12 rfl rfl
  intro q10 f10
  have h10 := h9.new ha f10 13 rfl rfl
  intro q11 f11
  have h11 := h10.new ha f11 15 rfl rfl
  intro q12 f12
  have h12 := h11.new ha f12 16 rfl rfl
  intro q13 f13
  have h13 := h12.new ha f13 17 rfl rfl
  intro q14 f14
  have h14 := h13.new ha f14 18 rfl rfl
  intro q15 f15
  have h15 := h14.new ha f15 19 rfl rfl
  intro q16 f16
  have h16 := h15.new ha f16 20 rfl rfl
  intro q17 f17
  have h17 := h16.new ha f17 23 rfl rfl
  intro q18 f18
  have h18 := h17.new ha f18 24 rfl rfl
  intro q19 f19
  have h19 := h18.new ha f19 25 rfl rfl
  intro q20 f20
  have h20 := h19.new ha f20 26 rfl rfl
  intro q21 f21
  have h21 := h20.new ha f21 27 rfl rfl
  intro q22 f22
  have h22 := h21.new ha f22 28 rfl rfl
  intro q23 f23
  have h23 := h22.new ha f23 29 rfl rfl
  intro q24 f24
  have h24 := h23.new ha f24 30 rfl rfl
  intro q25 f25
  have h25 := h24.new ha f25 32 rfl rfl
  have h26 := h25.set ha (-1)
  intro q26 f26
  have h27 := h26.new ha f26 41 rfl rfl
  intro q27 f27
  have h28 := h27.new ha f27 42 rfl rfl
  intro q28 f28
  have h29 := h28.new ha f28 43 rfl rfl
  intro q29 f29
  have h30 := h29.new ha f29 44 rfl rfl
  intro q30 f30
  have h31 := h30.new ha f30 45 rfl rfl
  intro q31 f31
  have h32 := h31.new ha f31 46 rfl rfl
  intro q32 f32
  have h33 := h32.new ha f32 49 rfl rfl
  intro q33 f33
  have h34 := h33.new ha f33 50 rfl rfl
  intro q34 f34
  have h35 := h34.new ha f34 51 rfl rfl
  intro q35 f35
  have h36 := h35.new ha f35 52 rfl rfl
  intro q36 f36
  have h37 := h36.new ha f36 54 rfl rfl
  obtain ⟨w1, w2, w3⟩ := h37.fin (by decide +kernel)
  exact hp _ _ w1 w2 w3
end INIT9
