/-! the class's cells: c i is the address of the i-th -/
def k8l : List (Option (Nat × Nat)) := [some (8, 0), some (5, 0), some (13, 60), some (0, 0), some (13, 300), some (7, 0), some (10, 200), some (12, 10), some (6, 0), some (10, 20), some (10, 100), some (10, 100), some (10, 100), some (10, 100), some (6, 0), some (10, 20), some (10, 100), some (10, 100), some (10, 100), some (10, 100), some (5, 0), some (13, 60), some (1, 0), some (10, 600), some (1, 0), some (10, 600)]
/-- kinds: 0 the object, 1 2 now, 3 4 history, 5 6 tape, 7 readers, 8..13 and 14..19 the two shapes, 20 21 then, 22 23 paper, 24 25 otherPaper; of reader j: 26 + 3 j itself, its paper, the marks -/
def k8 (rc i : Nat) : Option (Nat × Nat) := if i < 26 then k8l.getD i none else if i < 26 + 3 * rc then (if (i - 26) % 3 = 0 then some (3, 0) else if (i - 26) % 3 = 1 then some (1, 0) else some (10, 600)) else none
def r8 : List (Nat × Nat × Nat) := [(0, 0, 1), (0, 1, 3), (0, 2, 5), (0, 3, 7), (0, 10, 20), (0, 11, 22), (0, 12, 24), (1, 0, 2), (3, 0, 4), (5, 0, 6), (8, 0, 9), (8, 1, 10), (8, 2, 11), (8, 3, 12), (8, 4, 13), (14, 0, 15), (14, 1, 16), (14, 2, 17), (14, 3, 18), (14, 4, 19), (20, 0, 21), (22, 0, 23), (24, 0, 25)]
def L8 (σ : Hp) (c : Nat → Nat) (rc s : Nat) : Prop := (∀ i u, k8 rc i = some u → gk σ (c i) = some u) ∧ (∀ i j, k8 rc i ≠ none → k8 rc j ≠ none → c i = c j → i = j) ∧ (∀ t ∈ r8, gr σ (c t.1) t.2.1 = some (c t.2.2)) ∧ ((s = 8 ∨ s = 14) ∧ gr σ (c 0) 4 = some (c s) ∧ gr σ (c 0) 9 = some (c (22 - s))) ∧
  (∀ j, j < rc → gr σ (c 7) j = some (c (26 + 3 * j)) ∧ gr σ (c (26 + 3 * j)) 1 = some (c (27 + 3 * j)) ∧ gr σ (c (27 + 3 * j)) 0 = some (c (28 + 3 * j))) ∧ (∀ j, rc ≤ j → j < 10 → gr σ (c 7) j = none) ∧ rc ≤ 10
theorem k8_st {rc i : Nat} {u : Nat × Nat} (h : i < 26) (hu : k8l.getD i none = some u) : k8 rc i = some u := by
  unfold k8
  rw [if_pos h]; exact hu
theorem k8_n {rc i : Nat} (h : i < 26) : k8 rc i ≠ none := by
  have : ∀ i, i < 26 → k8l.getD i none ≠ none := by decide +kernel
  unfold k8
  rw [if_pos h]; exact this i h
theorem k8_rd {rc j : Nat} (h : j < rc) : k8 rc (26 + 3 * j) = some (3, 0) ∧ k8 rc (27 + 3 * j) = some (1, 0) ∧ k8 rc (28 + 3 * j) = some (10, 600) := by
  unfold k8
  refine ⟨?_, ?_, ?_⟩
  · rw [if_neg (by omega), if_pos (by omega), if_pos (by omega)]
  · rw [if_neg (by omega), if_pos (by omega), if_neg (by omega), if_pos (by omega)]
  · rw [if_neg (by omega), if_pos (by omega), if_neg (by omega), if_neg (by omega)]
theorem L8.k {σ : Hp} {c : Nat → Nat} {rc s : Nat} (h : L8 σ c rc s) (i : Nat) {u : Nat × Nat} (hi : i < 26) (hu : k8l.getD i none = some u) : gk σ (c i) = some u := h.1 i u (k8_st hi hu)
theorem L8.r {σ : Hp} {c : Nat → Nat} {rc s : Nat} (h : L8 σ c rc s) (i k j : Nat) (ht : (i, k, j) ∈ r8) : gr σ (c i) k = some (c j) := h.2.2.1 _ ht
theorem L8.ne {σ : Hp} {c : Nat → Nat} {rc s : Nat} (h : L8 σ c rc s) {i j : Nat} (hi : i < 26) (hj : j < 26) (hij : i ≠ j) : c i ≠ c j := fun q => hij (h.2.1 i j (k8_n hi) (k8_n hj) q)
theorem k8_none {rc i : Nat} (h : k8 rc i ≠ none) : i < 26 ∨ ∃ j, j < rc ∧ (i = 26 + 3 * j ∨ i = 27 + 3 * j ∨ i = 28 + 3 * j) := by
  unfold k8 at h
  by_cases h1 : i < 26
  · exact Or.inl h1
  · rw [if_neg h1] at h
    by_cases h2 : i < 26 + 3 * rc
    · exact Or.inr ⟨(i - 26) / 3, by omega, by omega⟩
    · rw [if_neg h2] at h; exact absurd rfl h
/-- no cell of the class's is a row object -/
theorem L8.n4 {σ : Hp} {c : Nat → Nat} {rc s : Nat} (h : L8 σ c rc s) {i q : Nat} (hi : k8 rc i ≠ none) (hq : gk σ q = some (4, 0)) : q ≠ c i := by
  rintro rfl
  obtain ⟨u, hu⟩ := Option.ne_none_iff_exists'.mp hi
  have h1 := h.1 i u hu
  rw [hq] at h1
  cases h1
  rcases k8_none hi with h2 | ⟨j, hj, h2⟩
  · have : ∀ i, i < 26 → k8l.getD i none ≠ some (4, 0) := by decide +kernel
    unfold k8 at hu
    rw [if_pos h2] at hu
    exact this i h2 hu
  · have := k8_rd hj
    rcases h2 with rfl | rfl | rfl
    · rw [this.1] at hu; cases hu
    · rw [this.2.1] at hu; cases hu
    · rw [this.2.2] at hu; cases hu
theorem L8.some {σ : Hp} {c : Nat → Nat} {rc s : Nat} (h : L8 σ c rc s) {i : Nat} (hi : k8 rc i ≠ none) : gk σ (c i) ≠ none := by
  obtain ⟨u, hu⟩ := Option.ne_none_iff_exists'.mp hi
  rw [h.1 i u hu]
  exact fun q => by cases q
/-- the layout stays where only rows' arrays' references change -/
theorem L8.ag {S T : Nat → Prop} {σ σ' : Hp} {c : Nat → Nat} {rc s : Nat} (h : L8 σ c rc s) (hA : Ag S T σ σ') (hT : ∀ i, k8 rc i ≠ none → T (c i) → i = 2 ∨ i = 4 ∨ i = 21) : L8 σ' c rc s := by
  have hr : ∀ i, k8 rc i ≠ none → ¬ (i = 2 ∨ i = 4 ∨ i = 21) → ∀ k, gr σ' (c i) k = gr σ (c i) k := fun i hi hn => (hA (c i) (h.some hi)).2.2 (fun z => hn (hT i hi z))
  have ht : ∀ t ∈ r8, t.1 < 26 ∧ ¬ (t.1 = 2 ∨ t.1 = 4 ∨ t.1 = 21) := by decide +kernel
  obtain ⟨h1, h2, h3, ⟨h4, h5, h6⟩, h7, h8, h9⟩ := id h
  refine ⟨fun i u hu => ?_, h2, fun t hm => ?_, ⟨h4, ?_, ?_⟩, fun j hj => ?_, fun j hj hj2 => ?_, h9⟩
  · rw [(hA (c i) (h.some (by rw [hu]; exact fun q => by cases q))).1]; exact h1 i u hu
  · rw [hr t.1 (k8_n (ht t hm).1) (ht t hm).2]; exact h3 t hm
  · rw [hr 0 (k8_n (by decide)) (by decide)]; exact h5
  · rw [hr 0 (k8_n (by decide)) (by decide)]; exact h6
  · have := k8_rd hj
    rw [hr 7 (k8_n (by decide)) (by decide), hr (26 + 3 * j) (by rw [this.1]; exact fun q => by cases q) (by omega), hr (27 + 3 * j) (by rw [this.2.1]; exact fun q => by cases q) (by omega)]
    exact h7 j hj
  · rw [hr 7 (k8_n (by decide)) (by decide)]; exact h8 j hj hj2
