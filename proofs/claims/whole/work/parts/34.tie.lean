/-! the tie: one mathematical state, the class's picture of it and the reference's -/
abbrev G1 : Type := RM × (Nat → RM) × Nat
abbrev G2 : Type := Nat × (Nat → Int32)
/-- a shape: parts, their tables, items, each item's owner, kind (0 value, 1 up, 2 down), reference, part -/
abbrev SHT : Type := Nat × (Nat → Int32) × Nat × (Nat → Nat × Nat × Nat × Nat)
/-- readers: how many; of each its row, how many marks it holds, these, and their rows -/
abbrev RLT : Type := Nat × (Nat → Nat × Nat × (Nat → Int32) × (Nat → Int32))
abbrev SCT : Type := Int32 × Int32 × Int32
def WFR (ρ : RM) : Prop := ρ.1 ≤ 60 ∧ ∀ i, i < ρ.1 → ((ρ.2 i).2.2.2.2 = 0 ∨ (ρ.2 i).2.2.2.2 = 1) ∧ ((ρ.2 i).2.2.1 = -1 ∨ ∃ j, j < ρ.1 ∧ (ρ.2 i).2.2.1 = nI j) ∧ ((ρ.2 i).2.2.2.1 = -1 ∨ ∃ j, j < ρ.1 ∧ (ρ.2 i).2.2.2.1 = nI j) ∧ (0 ≤ (ρ.2 i).1.toInt ∧ (ρ.2 i).1.toInt < 4) ∧ -1000 ≤ (ρ.2 i).2.1.toInt ∧ (ρ.2 i).2.1.toInt ≤ 1000
def G1ok (g : G1) : Prop := g.2.1 g.2.2 = g.1 ∧ (g.2.1 0).1 = 0 ∧ ∀ k, k ≤ g.2.2 → WFR (g.2.1 k)
/-- the reference's moments -/
def H9 (σ : Hp) (a : Nat) (e : Nat → Nat) (hs : Nat → RM) (mo : Nat) : Prop := gi σ a 2 = nI mo ∧ mo ≤ 300 ∧ ∀ k, k < mo → ∃ i, gi σ (e 4) k = nI i ∧ i < 60 ∧ ((gi σ (e 3) k).toInt = 0 → i = (hs k).1) ∧ ((gi σ (e 3) k).toInt ≠ 0 → i < (hs k).1) ∧ ((gi σ (e 3) k).toInt = 2 → gi σ (e 5) k = 0 ∨ gi σ (e 5) k = 1) ∧
  hs (k + 1) = setR (hs k) i (apD (gi σ (e 3) k) (gi σ (e 5) k) (gi σ (e 6) k) (gi σ (e 7) k) (gi σ (e 8) k) ((hs k).2 i))
def TP8 (σ : Hp) (c : Nat → Nat) (g : G2) : Prop := gi σ (c 5) 1 = nI g.1 ∧ g.1 ≤ 200 ∧ ∀ i, i < g.1 → gi σ (c 6) i = g.2 i ∧ 0 ≤ (g.2 i).toInt
def TP9 (σ : Hp) (a : Nat) (e : Nat → Nat) (g : G2) : Prop := gi σ a 33 = nI g.1 ∧ ∀ i, i < g.1 → gi σ (e 32) i = g.2 i
def SH8 (σ : Hp) (c : Nat → Nat) (s : Nat) (sh : SHT) : Prop := gi σ (c s) 5 = nI sh.1 ∧ gi σ (c s) 6 = nI sh.2.2.1 ∧ sh.1 ≤ 20 ∧ sh.2.2.1 ≤ 100 ∧ (∀ p, p < sh.1 → gi σ (c (s + 1)) p = sh.2.1 p) ∧
  ∀ i, i < sh.2.2.1 → gi σ (c (s + 2)) i = nI (sh.2.2.2 i).1 ∧ gi σ (c (s + 3)) i = nI (sh.2.2.2 i).2.1 ∧ ((sh.2.2.2 i).2.1 ≠ 0 → gi σ (c (s + 4)) i = nI (sh.2.2.2 i).2.2.1 ∧ gi σ (c (s + 5)) i = nI (sh.2.2.2 i).2.2.2)
/-- the first item of part p from the j-th on, among n -/
def nxt (it : Nat → Nat × Nat × Nat × Nat) (p : Nat) : Nat → Nat → Int32
  | 0, _ => -1
  | m + 1, j => if (it j).1 = p then nI j else nxt it p m (j + 1)
def SH9 (σ : Hp) (a : Nat) (e : Nat → Nat) (sh : SHT) : Prop := gi σ a 14 = nI sh.1 ∧ (∀ p, p < sh.1 → gi σ (e 15) p = sh.2.1 p ∧ gi σ (e 16) p = nxt sh.2.2.2 p sh.2.2.1 0) ∧
  ∀ i, i < sh.2.2.1 → gi σ (e 17) i = nI (sh.2.2.2 i).2.1 ∧ ((sh.2.2.2 i).2.1 ≠ 0 → gi σ (e 18) i = nI (sh.2.2.2 i).2.2.1 ∧ gi σ (e 19) i = nI (sh.2.2.2 i).2.2.2) ∧ gi σ (e 20) i = nxt sh.2.2.2 (sh.2.2.2 i).1 (sh.2.2.1 - (i + 1)) (i + 1)
def RD8 (σ : Hp) (c : Nat → Nat) (rl : RLT) : Prop := ∀ j, j < rl.1 → gi σ (c (26 + 3 * j)) 0 = nI (rl.2 j).1 ∧ gi σ (c (27 + 3 * j)) 1 = nI (rl.2 j).2.1 ∧ ∀ k, k < (rl.2 j).2.1 → gi σ (c (28 + 3 * j)) k = (rl.2 j).2.2.1 k
def RD9 (σ : Hp) (a : Nat) (e : Nat → Nat) (rl : RLT) : Prop := gi σ a 48 = nI rl.1 ∧ (∀ j, j < rl.1 → gi σ (e 49) j = nI (rl.2 j).1 ∧ gi σ (e 50) j = nI (rl.2 j).2.1 ∧ ∀ k, k < (rl.2 j).2.1 → gi σ (e 51) (600 * j + k) = (rl.2 j).2.2.1 k ∧ gi σ (e 52) (600 * j + k) = (rl.2 j).2.2.2 k) ∧ ∀ j, rl.1 ≤ j → j < 10 → gi σ (e 50) j = 0
def SC8 (σ : Hp) (c : Nat → Nat) (rc : Nat) (sc : SCT) : Prop := gi σ (c 0) 5 = nI rc ∧ gi σ (c 0) 6 = sc.1 ∧ gi σ (c 0) 7 = sc.2.1 ∧ gi σ (c 0) 8 = sc.2.2
def SC9 (σ : Hp) (a : Nat) (sc : SCT) : Prop := gi σ a 53 = sc.1 ∧ gi σ a 38 = sc.2.1 ∧ gi σ a 1 = sc.2.2
/-- the class at c, its shape in use at s -/
def T8 (σ : Hp) (c : Nat → Nat) (s : Nat) (g : G1) (t : G2) (sh : SHT) (rl : RLT) (sc : SCT) : Prop :=
  L8 σ c rl.1 s ∧ RS σ (c 1) (c 2) g.1 ∧ HS σ (c 3) (c 4) g.2.1 g.2.2 ∧ TP8 σ c t ∧ SH8 σ c s sh ∧ RD8 σ c rl ∧ SC8 σ c rl.1 sc
/-- the reference at a -/
def T9 (σ : Hp) (a : Nat) (e : Nat → Nat) (g : G1) (t : G2) (sh : SHT) (rl : RLT) (sc : SCT) : Prop :=
  L9 σ a e ∧ R9 σ a e g.1 ∧ H9 σ a e g.2.1 g.2.2 ∧ TP9 σ a e t ∧ SH9 σ a e sh ∧ RD9 σ a e rl ∧ SC9 σ a sc
/-- the reference's state hangs on its own cells alone -/
theorem T9.of {σ σ' : Hp} {a : Nat} {e : Nat → Nat} {g : G1} {t : G2} {sh : SHT} {rl : RLT} {sc : SCT} (h : T9 σ a e g t sh rl sc) (hL : L9 σ' a e) (ha : ∀ k, gi σ' a k = gi σ a k) (he : ∀ j, k9 j ≠ none → ∀ k, gi σ' (e j) k = gi σ (e j) k) : T9 σ' a e g t sh rl sc := by
  obtain ⟨h1, h2, h3, h4, h5, h6, h7⟩ := h
  refine ⟨hL, ?_, ?_, ?_, ?_, ?_, ?_⟩
  · unfold R9 at *
    rw [ha, ]
    simpa only [he 10 (by decide), he 11 (by decide), he 12 (by decide), he 13 (by decide)] using h2
  · unfold H9 at *
    rw [ha]
    simpa only [he 3 (by decide), he 4 (by decide), he 5 (by decide), he 6 (by decide), he 7 (by decide), he 8 (by decide)] using h3
  · unfold TP9 at *
    rw [ha]
    simpa only [he 32 (by decide)] using h4
  · unfold SH9 at *
    rw [ha]
    simpa only [he 15 (by decide), he 16 (by decide), he 17 (by decide), he 18 (by decide), he 19 (by decide), he 20 (by decide)] using h5
  · unfold RD9 at *
    rw [ha]
    simpa only [he 49 (by decide), he 50 (by decide), he 51 (by decide), he 52 (by decide)] using h6
  · unfold SC9 at *
    rw [ha, ha, ha]
    exact h7
theorem T9.ag {S T : Nat → Prop} {σ σ' : Hp} {a : Nat} {e : Nat → Nat} {g : G1} {t : G2} {sh : SHT} {rl : RLT} {sc : SCT} (h : T9 σ a e g t sh rl sc) (hA : Ag S T σ σ') (ha : ¬ S a ∧ ¬ T a) (he : ∀ j, k9 j ≠ none → ¬ S (e j) ∧ ¬ T (e j)) : T9 σ' a e g t sh rl sc := by
  have hL := h.1
  have h1 := hA a (by rw [hL.1]; exact fun z => by cases z)
  have h2 : ∀ j, k9 j ≠ none → gk σ (e j) ≠ none := fun j hj => by
    obtain ⟨u, hu⟩ := Option.ne_none_iff_exists'.mp hj
    rw [hL.k j hu]
    exact fun z => by cases z
  refine h.of ⟨by rw [h1.1]; exact hL.1, fun k u hu => ?_, hL.2.2⟩ (fun k => (h1.2.1 ha.1 k).1) (fun j hj k => ((hA (e j) (h2 j hj)).2.1 (he j hj).1 k).1)
  have hj : k9 k ≠ none := by rw [hu]; exact fun z => by cases z
  exact ⟨by rw [h1.2.2 ha.2]; exact hL.r k hu, by rw [(hA (e k) (h2 k hj)).1]; exact hL.k k hu⟩
theorem TP8.ag {S T : Nat → Prop} {σ σ' : Hp} {c : Nat → Nat} {rc s : Nat} {g : G2} (h : TP8 σ c g) (hL : L8 σ c rc s) (hA : Ag S T σ σ') (h5 : ¬ S (c 5)) (h6 : ¬ S (c 6)) : TP8 σ' c g := by
  unfold TP8 at *
  have e5 := (hA (c 5) (hL.some (k8_n (by decide)))).2.1 h5
  have e6 := (hA (c 6) (hL.some (k8_n (by decide)))).2.1 h6
  rw [(e5 1).1]
  exact ⟨h.1, h.2.1, fun i hi => by rw [(e6 i).1]; exact h.2.2 i hi⟩
theorem SH8.ag {S T : Nat → Prop} {σ σ' : Hp} {c : Nat → Nat} {rc s : Nat} {sh : SHT} (h : SH8 σ c s sh) (hL : L8 σ c rc s) (hA : Ag S T σ σ') (hS : ∀ k, k < 6 → ¬ S (c (s + k))) : SH8 σ' c s sh := by
  have hs : s = 8 ∨ s = 14 := hL.2.2.2.1.1
  have e : ∀ k, k < 6 → ∀ j, gi σ' (c (s + k)) j = gi σ (c (s + k)) j := fun k hk j => ((hA (c (s + k)) (hL.some (k8_n (by omega)))).2.1 (hS k hk) j).1
  unfold SH8 at *
  have e0 := e 0 (by decide)
  rw [Nat.add_zero] at e0
  simpa only [e0, e 1 (by decide), e 2 (by decide), e 3 (by decide), e 4 (by decide), e 5 (by decide)] using h
theorem RD8.ag {S T : Nat → Prop} {σ σ' : Hp} {c : Nat → Nat} {s : Nat} {rl : RLT} (h : RD8 σ c rl) (hL : L8 σ c rl.1 s) (hA : Ag S T σ σ') (hS : ∀ i, 26 ≤ i → k8 rl.1 i ≠ none → ¬ S (c i)) : RD8 σ' c rl := fun j hj => by
  have hk := k8_rd hj
  have n1 : k8 rl.1 (26 + 3 * j) ≠ none := by rw [hk.1]; exact fun z => by cases z
  have n2 : k8 rl.1 (27 + 3 * j) ≠ none := by rw [hk.2.1]; exact fun z => by cases z
  have n3 : k8 rl.1 (28 + 3 * j) ≠ none := by rw [hk.2.2]; exact fun z => by cases z
  obtain ⟨h1, h2, h3⟩ := h j hj
  refine ⟨by rw [((hA _ (hL.some n1)).2.1 (hS _ (by omega) n1) 0).1]; exact h1, by rw [((hA _ (hL.some n2)).2.1 (hS _ (by omega) n2) 1).1]; exact h2, fun k hk => ?_⟩
  rw [((hA _ (hL.some n3)).2.1 (hS _ (by omega) n3) k).1]; exact h3 k hk
theorem SC8.ag {S T : Nat → Prop} {σ σ' : Hp} {c : Nat → Nat} {rc rc2 s : Nat} {sc : SCT} (h : SC8 σ c rc sc) (hL : L8 σ c rc2 s) (hA : Ag S T σ σ') (h0 : ¬ S (c 0)) : SC8 σ' c rc sc := by
  have e0 := (hA (c 0) (hL.some (k8_n (by decide)))).2.1 h0
  unfold SC8 at *
  rw [(e0 5).1, (e0 6).1, (e0 7).1, (e0 8).1]
  exact h
/-- the class's state hangs on its own cells and the row objects alone -/
theorem T8.ag {S T : Nat → Prop} {σ σ' : Hp} {c : Nat → Nat} {s : Nat} {g : G1} {t : G2} {sh : SHT} {rl : RLT} {sc : SCT} (h : T8 σ c s g t sh rl sc) (hA : Ag S T σ σ') (hS : ∀ i, k8 rl.1 i ≠ none → ¬ S (c i) ∧ ¬ T (c i)) (h4 : ∀ q, gk σ q = some (4, 0) → ¬ S q) : T8 σ' c s g t sh rl sc := by
  obtain ⟨h1, h2, h3, h5, h6, h7, h8⟩ := h
  have hs : s = 8 ∨ s = 14 := h1.2.2.2.1.1
  have n : ∀ i, i < 26 → ¬ S (c i) ∧ ¬ T (c i) := fun i hi => hS i (k8_n hi)
  exact ⟨h1.ag hA (fun i hi hT => absurd hT (hS i hi).2), h2.ag hA (n 1 (by decide)).1 (n 1 (by decide)).2 (n 2 (by decide)).2 h4, h3.ag hA (n 3 (by decide)).1 (n 3 (by decide)).2 (n 4 (by decide)).2 h4, h5.ag h1 hA (n 5 (by decide)).1 (n 6 (by decide)).1, h6.ag h1 hA (fun k hk => (n (s + k) (by omega)).1), h7.ag h1 hA (fun i _ hi => (hS i hi).1), h8.ag h1 hA (n 0 (by decide)).1⟩
/-- what the reference writes, as the class sees it -/
theorem Ag.of {W : Nat → Nat → Prop} {σ σ' : Hp} (hs : SK σ σ') (hf : Fr W σ σ') : Ag (fun b => ∃ k, W b k) (fun _ => False) σ σ' := fun b _ => ⟨hs.1 b, fun hn k => hf b k (fun z => hn ⟨k, z⟩), fun _ k => hs.2 b k⟩
