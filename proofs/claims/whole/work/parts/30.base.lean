/-! plain facts on ints -/
theorem ilt (x y : Int32) : x < y ↔ x.toInt < y.toInt := Int32.lt_iff_toInt_lt
theorem ile (x y : Int32) : x ≤ y ↔ x.toInt ≤ y.toInt := Int32.le_iff_toInt_le
theorem ieq (x y : Int32) : x = y ↔ x.toInt = y.toInt := (Int32.toInt_inj).symm
theorem irng (x : Int32) : -2147483648 ≤ x.toInt ∧ x.toInt < 2147483648 := by
  have h1 := Int32.le_toInt x
  have h2 := Int32.toInt_lt x
  constructor <;> omega
theorem ibm {z : Int} (h1 : -2147483648 ≤ z) (h2 : z < 2147483648) : z.bmod (2 ^ 32) = z := by
  apply Int.bmod_eq_of_le_mul_two <;> omega
theorem iadd {x y : Int32} (h1 : -2147483648 ≤ x.toInt + y.toInt) (h2 : x.toInt + y.toInt < 2147483648) : (x + y).toInt = x.toInt + y.toInt := by
  rw [Int32.toInt_add, ibm h1 h2]
theorem isub {x y : Int32} (h1 : -2147483648 ≤ x.toInt - y.toInt) (h2 : x.toInt - y.toInt < 2147483648) : (x - y).toInt = x.toInt - y.toInt := by
  rw [Int32.toInt_sub, ibm h1 h2]
theorem imul {x y : Int32} (h1 : -2147483648 ≤ x.toInt * y.toInt) (h2 : x.toInt * y.toInt < 2147483648) : (x * y).toInt = x.toInt * y.toInt := by
  rw [Int32.toInt_mul, ibm h1 h2]
theorem icl (x : Int32) : x.toNatClampNeg = x.toInt.toNat := rfl
theorem nIi {n : Nat} (h : n < 2147483648) : (nI n).toInt = (n : Int) := nI_toInt h
theorem ofn (n : Nat) : Int32.ofNat n = nI n := rfl
theorem vin {x : Int32} {n : Nat} (h0 : 0 ≤ x.toInt) (h1 : x.toInt < n) : vp_in x n := vp_in_iff.mpr ⟨h0, h1⟩
theorem vinN {k n : Nat} (h : k < n) (hn : n < 2147483648) : vp_in (nI k) n := vp_in_nI h hn
theorem clN {k : Nat} (h : k < 2147483648) : (nI k).toNatClampNeg = k := nI_clamp h
theorem i_of {x : Int32} (h0 : 0 ≤ x.toInt) : ∃ k : Nat, k < 2147483648 ∧ x = nI k ∧ x.toInt = k := by
  have h2 := irng x
  refine ⟨x.toInt.toNat, by omega, ?_, by omega⟩
  rw [ieq, nIi (by omega)]
  omega
theorem i64lt (x y : Int64) : x < y ↔ x.toInt < y.toInt := Int64.lt_iff_toInt_lt
theorem i64le (x y : Int64) : x ≤ y ↔ x.toInt ≤ y.toInt := Int64.le_iff_toInt_le
theorem i64of (x : Int32) : x.toInt64.toInt = x.toInt := Int32.toInt_toInt64 x
theorem l64bm {z : Int} (h1 : -9223372036854775808 ≤ z) (h2 : z < 9223372036854775808) : z.bmod (2 ^ 64) = z := by
  apply Int.bmod_eq_of_le_mul_two <;> omega
theorem lsub {x y : Int64} (h1 : -9223372036854775808 ≤ x.toInt - y.toInt) (h2 : x.toInt - y.toInt < 9223372036854775808) : (x - y).toInt = x.toInt - y.toInt := by
  rw [Int64.toInt_sub, l64bm h1 h2]
/-! the reference: small members -/
theorem X9_in {x lo hi : Int64} {σ : Hp} {post : Int32 → Hp → Prop} (h : post (if lo.toInt ≤ x.toInt ∧ x.toInt ≤ hi.toInt then 1 else 0) σ) : P_X9_in x lo hi σ post := by
  unfold P_X9_in
  rw [lg_cmp_lt, lg_cmp_gt, i64lt, i64lt]
  refine ⟨fun h1 => ?_, fun h1 => ⟨fun h2 => ?_, fun h2 => ?_⟩⟩
  · rwa [if_neg (by omega)] at h
  · rwa [if_neg (by omega)] at h
  · rwa [if_pos (by omega)] at h
theorem X9_isValue {x : Int32} {σ : Hp} {post : Int32 → Hp → Prop} (h : post (if -1000 ≤ x.toInt ∧ x.toInt ≤ 1000 then 1 else 0) σ) : P_X9_isValue x σ post := by
  unfold P_X9_isValue
  apply X9_in
  rw [i64of, show (-1000 : Int64).toInt = -1000 by decide, show (1000 : Int64).toInt = 1000 by decide]
  refine ⟨?_, h⟩
  split <;> simp
theorem X8_isValue {x : Int32} {σ : Hp} {post : Int32 → Hp → Prop} (h : post (if -1000 ≤ x.toInt ∧ x.toInt ≤ 1000 then 1 else 0) σ) : P_X8_isValue x σ post := by
  unfold P_X8_isValue
  simp only [ilt, ile, show (-1000 : Int32).toInt = -1000 by decide, show (1000 : Int32).toInt = 1000 by decide]
  refine ⟨fun h1 => ?_, fun h1 => ⟨fun h2 => ?_, fun h2 => ?_⟩⟩
  · rwa [if_neg (by omega)] at h
  · rwa [if_neg (by omega)] at h
  · rwa [if_pos (by omega)] at h
/-- the reference's cells: kinds and lengths of the arrays by the field that holds them -/
def k9l : List (Option (Nat × Nat)) := [none, none, none, some (10, 300), some (10, 300), some (10, 300), some (10, 300), some (10, 300), some (10, 300), none,
  some (10, 60), some (10, 60), some (10, 120), some (11, 60), none, some (10, 20), some (10, 20), some (10, 200), some (10, 200), some (10, 200), some (10, 200), none, none, some (10, 20), some (10, 20), some (10, 20), some (10, 200), some (10, 200), some (10, 200), some (10, 200), some (10, 6), none, some (10, 200), none, none, none, none, none, none, none, none,
  some (10, 600), some (10, 600), some (11, 60), some (10, 8), some (10, 8), some (10, 8), none, none, some (10, 10), some (10, 10), some (10, 6000), some (10, 6000), none, some (10, 600)]
def k9 (k : Nat) : Option (Nat × Nat) := k9l.getD k none
/-- the reference object at a, its arrays at e -/
def L9 (σ : Hp) (a : Nat) (e : Nat → Nat) : Prop := gk σ a = some (9, 0) ∧ (∀ k u, k9 k = some u → gr σ a k = some (e k) ∧ gk σ (e k) = some u) ∧ ∀ i j, k9 i ≠ none → k9 j ≠ none → e i = e j → i = j
theorem L9.r {σ : Hp} {a : Nat} {e : Nat → Nat} (h : L9 σ a e) (k : Nat) {u : Nat × Nat} (hk : k9 k = some u) : gr σ a k = some (e k) := (h.2.1 k u hk).1
theorem L9.k {σ : Hp} {a : Nat} {e : Nat → Nat} (h : L9 σ a e) (k : Nat) {u : Nat × Nat} (hk : k9 k = some u) : gk σ (e k) = some u := (h.2.1 k u hk).2
theorem L9.ne {σ : Hp} {a : Nat} {e : Nat → Nat} (h : L9 σ a e) {i j : Nat} (hi : k9 i ≠ none) (hj : k9 j ≠ none) (hij : i ≠ j) : e i ≠ e j := fun q => hij (h.2.2 i j hi hj q)
theorem k9_big {k : Nat} (h : 55 ≤ k) : k9 k = none := by
  unfold k9
  rw [List.getD_eq_getElem?_getD, List.getElem?_eq_none (show k9l.length ≤ k from h)]
  rfl
theorem k9_kind {k : Nat} {u : Nat × Nat} (h : k9 k = some u) : u.1 = 10 ∨ u.1 = 11 := by
  have hk : k < 55 := Classical.byContradiction fun q => by rw [k9_big (by omega)] at h; cases h
  have : ∀ k, k < 55 → ∀ u, k9 k = some u → u.1 = 10 ∨ u.1 = 11 := by decide +kernel
  exact this k hk u h
theorem L9.na {σ : Hp} {a : Nat} {e : Nat → Nat} (h : L9 σ a e) (k : Nat) (hk : k9 k ≠ none) : e k ≠ a := by
  obtain ⟨u, hu⟩ := Option.ne_none_iff_exists'.mp hk
  have h1 := h.k k hu
  intro q
  rw [q, h.1] at h1
  have := k9_kind hu
  cases h1
  simp at this
/-- the kinds and the references stay -/
def SK (σ σ' : Hp) : Prop := (∀ b, gk σ' b = gk σ b) ∧ ∀ b k, gr σ' b k = gr σ b k
theorem SK.rf {σ : Hp} : SK σ σ := ⟨fun _ => rfl, fun _ _ => rfl⟩
theorem SK.tr {σ σ' σ'' : Hp} (h : SK σ σ') (h' : SK σ' σ'') : SK σ σ'' := ⟨fun b => (h'.1 b).trans (h.1 b), fun b k => (h'.2 b k).trans (h.2 b k)⟩
theorem SK.wi {σ : Hp} (a k : Nat) (v : Int32) : SK σ (si σ a k v) := ⟨fun _ => rfl, fun _ _ => rfl⟩
theorem L9.sk {σ σ' : Hp} {a : Nat} {e : Nat → Nat} (h : L9 σ a e) (hs : SK σ σ') : L9 σ' a e := ⟨by rw [hs.1]; exact h.1, fun k u hk => by rw [hs.1, hs.2]; exact h.2.1 k u hk, h.2.2⟩
theorem X9_told {σ : Hp} {a : Nat} {v : Int32} {post : Int32 → Hp → Prop} (hk : gk σ a = some (9, 0)) (h : post v (si σ a 1 (if 0 ≤ v.toInt then 0 else v))) : P_X9_told a v σ post := by
  unfold P_X9_told
  simp only [ile, show (0 : Int32).toInt = 0 by decide]
  refine ⟨fun h1 => ⟨hk, ?_⟩, fun h1 => ⟨hk, ?_⟩⟩
  · rwa [if_pos h1] at h
  · rwa [if_neg h1] at h
