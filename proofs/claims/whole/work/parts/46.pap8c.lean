section PAPER8C
variable {σ σ' σ0 : Hp} {c : Nat → Nat} {rc s ia ib : Nat} {sh : SHT} {ρ : RM} {st st' : PST}
theorem N8.new (hix : IX ia ib) (h1 : L8 σ c rc s) (h2 : SH8 σ c s sh) (h3 : RS σ (c ia) (c (ia + 1)) ρ) (hA : Ag (IL c [ib, ib + 1]) (fun _ => False) σ σ') (hQ : Q8 σ' (c ib) (c (ib + 1)) st') : N8 σ c rc s ia ib sh ρ σ' st' := by
  have hs8 : s = 8 ∨ s = 14 := h1.2.2.2.1.1
  have hl : ∀ i ∈ [ib, ib + 1], i < 26 := by
    intro i hi
    have := hix.2
    simp at hi; omega
  have n : ∀ i, i < 22 → ¬ IL c [ib, ib + 1] (c i) := fun i hi => IL.not h1 hl (k8_n (by omega)) (by have := hix.2; simp; omega)
  exact ⟨h1.ag hA (fun i hi hT => hT.elim), h2.ag h1 hA (fun k hk => n (s + k) (by omega)), h3.ag hA (n ia (by have := hix.1; omega)) id id (fun q hq => IL.n4 h1 hl hq), hQ, hA, fun k => (hA (c (ia + 1)) (h1.some (k8_n (by have := hix.1; omega)))).2.2 id k⟩
theorem L8.pk (h : L8 σ c rc s) (hb : ib = 22 ∨ ib = 24) : gk σ (c ib) = Option.some (1, 0) ∧ gr σ (c ib) 0 = Option.some (c (ib + 1)) ∧ gk σ (c (ib + 1)) = Option.some (10, 600) := by
  rcases hb with rfl | rfl
  · exact ⟨h.k 22 (by decide) rfl, h.r 22 0 23 (by decide), h.k 23 (by decide) rfl⟩
  · exact ⟨h.k 24 (by decide) rfl, h.r 24 0 25 (by decide), h.k 25 (by decide) rfl⟩
theorem X1_gather {x : Int32} {post : Hp → Prop} (hix : IX ia ib) (hL : L8 σ c rc s) (hS : SH8 σ c s sh) (hR : RS σ (c ia) (c (ia + 1)) ρ) (hW : WFR ρ) (hsh : SHok sh) (hp : ∀ σ', N8 σ c rc s ia ib sh ρ σ' (gM ρ sh x) → post σ') : P_X1_gather (c ib) (c s) (c ia) x σ post := by
  unfold P_X1_gather
  obtain ⟨b1, b2, b3⟩ := hL.pk hix.2
  have hne : c (ib + 1) ≠ c ib := hL.ne (by have := hix.2; omega) (by have := hix.2; omega) (by omega)
  have h0 : N8 σ c rc s ia ib sh ρ (sl (si σ (c ib) 1 (0 : Int32)) (c ib) 2 (0 : Int64)) ([], fun _ => false) := by
    refine N8.new hix hL hS hR ((Ag.rf.wi _ (Or.inl ⟨ib, by simp, rfl⟩)).wl _ (Or.inl ⟨ib, by simp, rfl⟩)) ⟨⟨b1, b2, b3, ?_, cut_le _, fun k hk => ?_⟩, fun _ => ?_⟩
    · rw [gi_sl]; exact gi_ss
    · exact absurd hk (Nat.not_lt_zero _)
    · rw [gl_ss]; exact BT.zero
  refine ⟨b1, hR.1, ?_⟩
  generalize sl (si σ (c ib) 1 (0 : Int32)) (c ib) 2 (0 : Int64) = σ1 at h0 ⊢
  obtain ⟨lv, l0, l20, l100, ltb, lit⟩ := hsh
  unfold gM at hp
  refine h0.stand (fun q hs hlt hq hw => ⟨fun z => (by cases z), fun b hb => ?_⟩) (fun hs => ⟨fun _ => ?_, fun b z => by cases z⟩)
  · cases hb
    refine ⟨hw.1, h0.1.shk.1, ?_⟩
    by_cases hs0 : sh.1 = 0
    · rw [if_neg (fun z => z.1 hs0)] at hp
      refine X6_table0 h0.1 h0.2.1 hs0 ⟨fun _ => hp _ h0, fun z => ?_⟩
      have := (hW.2 _ hlt).2.2.2.1
      rw [hw.2.2.1] at z
      rw [z] at this
      exact absurd this.1 (by decide)
    · have hs1 : 0 < sh.1 := by omega
      refine X6_tableOf (p := 0) h0.1 h0.2.1 hs1 ⟨fun z => ?_, fun z => ⟨h0.2.2.2.1.1.1, ?_⟩⟩
      · rw [hw.2.2.1] at z
        rw [if_neg (fun y => z y.2.2)] at hp
        exact hp _ h0
      · rw [hw.2.2.1] at z
        rw [if_pos ⟨hs0, hs, z⟩] at hp
        have hA := N8_part (σ0 := σ) (c := c) (rc := rc) (s := s) (ρ := ρ) hix (show SHlv sh lv from lit) 7 9 (by decide) 0 _ q σ1 _ post (by omega) hs1 hlt hq h0 hp
        rw [l0] at hA
        exact hA
  · rw [if_neg (fun y => hs y.2.1)] at hp
    exact hp _ h0
end PAPER8C
