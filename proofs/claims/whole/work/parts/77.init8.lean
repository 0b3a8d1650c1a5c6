/-! two new objects -/
def upN (c : Nat → Nat) (k q : Nat) : Nat → Nat := fun i => if i = k then q else c i
def upD (D : Nat → Bool) (k : Nat) : Nat → Bool := fun i => if i = k then true else D i
def nV (V : Nat → Nat → Int32) (k : Nat) : Nat → Nat → Int32 := fun i z => if i = k then 0 else V i z
def nR (Rf : Nat → Nat → Option Nat) (k : Nat) : Nat → Nat → Option Nat := fun i z => if i = k then none else Rf i z
def uV (V : Nat → Nat → Int32) (i z : Nat) (v : Int32) : Nat → Nat → Int32 := fun j w => if j = i ∧ w = z then v else V j w
def uR (Rf : Nat → Nat → Option Nat) (i z o : Nat) : Nat → Nat → Option Nat := fun j w => if j = i ∧ w = z then some o else Rf j w
/-- the class's cells made so far: which, where, their ints, their references by number -/
def IN8 (c : Nat → Nat) (D : Nat → Bool) (V : Nat → Nat → Int32) (Rf : Nat → Nat → Option Nat) (σ : Hp) : Prop := (∀ i, D i = true → i < 26 ∧ gk σ (c i) = k8l.getD i none ∧ gk σ (c i) ≠ none ∧ (∀ z, gi σ (c i) z = V i z) ∧ (∀ z, gr σ (c i) z = (Rf i z).map c) ∧ ∀ z j, Rf i z = some j → D j = true) ∧ ∀ i j, D i = true → D j = true → c i = c j → i = j
section INIT8
variable {σ σ' : Hp} {c : Nat → Nat} {D : Nat → Bool} {V : Nat → Nat → Int32} {Rf : Nat → Nat → Option Nat}
theorem upN_s {k q : Nat} : upN c k q k = q := if_pos rfl
theorem upN_n {k q i : Nat} (h : i ≠ k) : upN c k q i = c i := if_neg h
theorem upD_c {k i : Nat} (h : upD D k i = true) : i = k ∨ (i ≠ k ∧ D i = true) := by
  by_cases hi : i = k
  · exact Or.inl hi
  · unfold upD at h; rw [if_neg hi] at h; exact Or.inr ⟨hi, h⟩
theorem upD_o {k i : Nat} (h : D i = true) : upD D k i = true := by
  unfold upD; split
  · rfl
  · exact h
theorem IN8.new (h : IN8 c D V Rf σ) {q k t n : Nat} (f : gk σ q = none) (hD : D k = false) (hk : k8l.getD k none = some (t, n)) (h26 : k < 26) : IN8 (upN c k q) (upD D k) (nV V k) (nR Rf k) (nw σ q t n) := by
  obtain ⟨h1, h2⟩ := h
  have nq : ∀ i, D i = true → c i ≠ q := fun i hi z => (h1 i hi).2.2.1 (by rw [z]; exact f)
  have nk : ∀ i, D i = true → i ≠ k := fun i hi z => by rw [z, hD] at hi; cases hi
  refine ⟨fun i hi => ?_, fun i j hi hj hij => ?_⟩
  · rcases upD_c hi with rfl | ⟨hn, hi⟩
    · rw [upN_s]
      refine ⟨h26, by rw [gk_new, hk], by rw [gk_new]; exact fun z => (by cases z), fun z => ?_, fun z => ?_, fun z j hj => ?_⟩
      · rw [gi_nw, if_pos rfl]; unfold nV; rw [if_pos rfl]
      · rw [gr_nw, if_pos rfl]; unfold nR; rw [if_pos rfl]; rfl
      · unfold nR at hj; rw [if_pos rfl] at hj; cases hj
    · rw [upN_n hn]
      obtain ⟨w1, w2, w3, w4, w5, w6⟩ := h1 i hi
      have hcq := nq i hi
      refine ⟨w1, by rw [gk_nw, if_neg hcq]; exact w2, by rw [gk_nw, if_neg hcq]; exact w3, fun z => ?_, fun z => ?_, fun z j hj => ?_⟩
      · rw [gi_nw, if_neg hcq]; unfold nV; rw [if_neg hn]; exact w4 z
      · rw [gr_nw, if_neg hcq, w5]
        unfold nR; rw [if_neg hn]
        cases hz : Rf i z with
        | none => rfl
        | some j =>
          show some (c j) = some (upN c k q j)
          rw [upN_n (nk j (w6 z j hz))]
      · unfold nR at hj; rw [if_neg hn] at hj; exact upD_o (w6 z j hj)
  · rcases upD_c hi with hi1 | ⟨hn, hi1⟩
    · rcases upD_c hj with hj1 | ⟨hn', hj1⟩
      · rw [hi1, hj1]
      · rw [hi1, upN_s, upN_n hn'] at hij; exact absurd hij.symm (nq j hj1)
    · rcases upD_c hj with hj1 | ⟨hn', hj1⟩
      · rw [hj1, upN_s, upN_n hn] at hij; exact absurd hij (nq i hi1)
      · rw [upN_n hn, upN_n hn'] at hij; exact h2 i j hi1 hj1 hij
theorem IN8.wi (h : IN8 c D V Rf σ) {a z : Nat} {v : Int32} (i : Nat) (ha : c i = a) (hD : D i = true) : IN8 c D (uV V i z v) Rf (si σ a z v) := by
  subst ha
  refine ⟨fun j hj => ?_, h.2⟩
  obtain ⟨w1, w2, w3, w4, w5, w6⟩ := h.1 j hj
  refine ⟨w1, w2, w3, fun w => ?_, w5, w6⟩
  rw [gi_si]
  unfold uV
  by_cases hc : c j = c i ∧ w = z
  · rw [if_pos hc, if_pos ⟨h.2 j i hj hD hc.1, hc.2⟩]
  · rw [if_neg hc, if_neg (fun y => hc ⟨by rw [y.1], y.2⟩)]; exact w4 w
theorem IN8.wl (h : IN8 c D V Rf σ) {a z : Nat} {v : Int64} : IN8 c D V Rf (sl σ a z v) := h
theorem IN8.wr (h : IN8 c D V Rf σ) {a b z : Nat} (i j : Nat) (ha : c i = a) (hb : c j = b) (hD : D i = true) (hDj : D j = true) : IN8 c D V (uR Rf i z j) (sr σ a z (some b)) := by
  subst ha hb
  refine ⟨fun o ho => ?_, h.2⟩
  obtain ⟨w1, w2, w3, w4, w5, w6⟩ := h.1 o ho
  refine ⟨w1, w2, w3, w4, fun w => ?_, fun w p hp => ?_⟩
  · rw [gr_sr]
    unfold uR
    by_cases hc : c o = c i ∧ w = z
    · rw [if_pos hc, if_pos ⟨h.2 o i ho hD hc.1, hc.2⟩]; rfl
    · rw [if_neg hc, if_neg (fun y => hc ⟨by rw [y.1], y.2⟩)]; exact w5 w
  · unfold uR at hp
    by_cases hc : o = i ∧ w = z
    · rw [if_pos hc] at hp; cases hp; exact hDj
    · rw [if_neg hc] at hp; exact w6 w p hp
theorem IN8.k (h : IN8 c D V Rf σ) (i : Nat) {a : Nat} {u : Nat × Nat} (ha : c i = a) (hD : D i = true) (hu : k8l.getD i none = some u) : gk σ a = some u := by
  subst ha; rw [(h.1 i hD).2.1]; exact hu
theorem IN8.i5 (h : IN8 c D V Rf σ) {a : Nat} (k : Nat) (ha : c k = a) (hD : D k = true) (hk : k8l.getD k none = some (5, 0)) (hD1 : D (k + 1) = false) (hk1 : k8l.getD (k + 1) none = some (13, 60)) (h26 : k + 1 < 26) {post : Hp → Prop} (hp : ∀ q σ', IN8 (upN c (k + 1) q) (upD D (k + 1)) (uV (nV V (k + 1)) k 1 0) (uR (nR Rf (k + 1)) k 0 (k + 1)) σ' → post σ') : P_X5_init a σ post := by
  unfold P_X5_init
  intro q f
  have h1 := h.new f hD1 hk1 h26
  have ha1 : upN c (k + 1) q k = a := by rw [upN_n (by omega)]; exact ha
  exact ⟨h1.k k ha1 (upD_o hD) hk, hp q _ ((h1.wr k (k + 1) ha1 upN_s (upD_o hD) (if_pos rfl)).wi k ha1 (upD_o hD))⟩
theorem IN8.i0 (h : IN8 c D V Rf σ) {a : Nat} (k : Nat) (ha : c k = a) (hD : D k = true) (hk : k8l.getD k none = some (0, 0)) (hD1 : D (k + 1) = false) (hk1 : k8l.getD (k + 1) none = some (13, 300)) (h26 : k + 1 < 26) {post : Hp → Prop} (hp : ∀ q σ', IN8 (upN c (k + 1) q) (upD D (k + 1)) (uV (nV V (k + 1)) k 1 0) (uR (nR Rf (k + 1)) k 0 (k + 1)) σ' → post σ') : P_X0_init a σ post := by
  unfold P_X0_init
  intro q f
  have h1 := h.new f hD1 hk1 h26
  have ha1 : upN c (k + 1) q k = a := by rw [upN_n (by omega)]; exact ha
  exact ⟨h1.k k ha1 (upD_o hD) hk, hp q _ ((h1.wr k (k + 1) ha1 upN_s (upD_o hD) (if_pos rfl)).wi k ha1 (upD_o hD))⟩
theorem IN8.i7 (h : IN8 c D V Rf σ) {a : Nat} (k : Nat) (ha : c k = a) (hD : D k = true) (hk : k8l.getD k none = some (7, 0)) (hD1 : D (k + 1) = false) (hk1 : k8l.getD (k + 1) none = some (10, 200)) (h26 : k + 1 < 26) {post : Hp → Prop} (hp : ∀ q σ', IN8 (upN c (k + 1) q) (upD D (k + 1)) (uV (nV V (k + 1)) k 1 0) (uR (nR Rf (k + 1)) k 0 (k + 1)) σ' → post σ') : P_X7_init a σ post := by
  unfold P_X7_init
  intro q f
  have h1 := h.new f hD1 hk1 h26
  have ha1 : upN c (k + 1) q k = a := by rw [upN_n (by omega)]; exact ha
  exact ⟨h1.k k ha1 (upD_o hD) hk, hp q _ ((h1.wr k (k + 1) ha1 upN_s (upD_o hD) (if_pos rfl)).wi k ha1 (upD_o hD))⟩
theorem IN8.i1 (h : IN8 c D V Rf σ) {a : Nat} (k : Nat) (ha : c k = a) (hD : D k = true) (hk : k8l.getD k none = some (1, 0)) (hD1 : D (k + 1) = false) (hk1 : k8l.getD (k + 1) none = some (10, 600)) (h26 : k + 1 < 26) {post : Hp → Prop} (hp : ∀ q σ', IN8 (upN c (k + 1) q) (upD D (k + 1)) (uV (nV V (k + 1)) k 1 0) (uR (nR Rf (k + 1)) k 0 (k + 1)) σ' → post σ') : P_X1_init a σ post := by
  unfold P_X1_init
  intro q f
  have h1 := h.new f hD1 hk1 h26
  have ha1 : upN c (k + 1) q k = a := by rw [upN_n (by omega)]; exact ha
  exact ⟨h1.k k ha1 (upD_o hD) hk, hp q _ ((h1.wr k (k + 1) ha1 upN_s (upD_o hD) (if_pos rfl)).wi k ha1 (upD_o hD)).wl⟩
/-- an array of a shape, its j-th -/
theorem IN8.arr (h : IN8 c D V Rf σ) {a q n : Nat} (k j : Nat) (ha : c k = a) (hD : D k = true) (f : gk σ q = none) (hD1 : D (k + 1 + j) = false) (hk1 : k8l.getD (k + 1 + j) none = some (10, n)) (h26 : k + 1 + j < 26) : IN8 (upN c (k + 1 + j) q) (upD D (k + 1 + j)) (nV V (k + 1 + j)) (uR (nR Rf (k + 1 + j)) k j (k + 1 + j)) (sr (nw σ q 10 n) a j (some q)) ∧ upN c (k + 1 + j) q k = a ∧ upD D (k + 1 + j) k = true := by
  have ha1 : upN c (k + 1 + j) q k = a := by rw [upN_n (by omega)]; exact ha
  exact ⟨(h.new f hD1 hk1 h26).wr k (k + 1 + j) ha1 upN_s (upD_o hD) (if_pos rfl), ha1, upD_o hD⟩
abbrev c6 (c : Nat → Nat) (k q1 q2 q3 q4 q5 : Nat) : Nat → Nat := upN (upN (upN (upN (upN c (k + 1 + 0) q1) (k + 1 + 1) q2) (k + 1 + 2) q3) (k + 1 + 3) q4) (k + 1 + 4) q5
abbrev D6 (D : Nat → Bool) (k : Nat) : Nat → Bool := upD (upD (upD (upD (upD D (k + 1 + 0)) (k + 1 + 1)) (k + 1 + 2)) (k + 1 + 3)) (k + 1 + 4)
abbrev V6 (V : Nat → Nat → Int32) (k : Nat) : Nat → Nat → Int32 := uV (uV (nV (nV (nV (nV (nV V (k + 1 + 0)) (k + 1 + 1)) (k + 1 + 2)) (k + 1 + 3)) (k + 1 + 4)) k 5 0) k 6 0
abbrev R6 (Rf : Nat → Nat → Option Nat) (k : Nat) : Nat → Nat → Option Nat := uR (nR (uR (nR (uR (nR (uR (nR (uR (nR Rf (k + 1 + 0)) k 0 (k + 1 + 0)) (k + 1 + 1)) k 1 (k + 1 + 1)) (k + 1 + 2)) k 2 (k + 1 + 2)) (k + 1 + 3)) k 3 (k + 1 + 3)) (k + 1 + 4)) k 4 (k + 1 + 4)
theorem IN8.i6 (h : IN8 c D V Rf σ) {a : Nat} (k : Nat) (ha : c k = a) (hD : D k = true) (hk : k8l.getD k none = some (6, 0)) (hf : ∀ j, j < 5 → D (k + 1 + j) = false) (hk0 : k8l.getD (k + 1 + 0) none = some (10, 20)) (hk1 : ∀ j, j < 5 → 1 ≤ j → k8l.getD (k + 1 + j) none = some (10, 100)) (h26 : k + 6 ≤ 26) {post : Hp → Prop} (hp : ∀ q1 q2 q3 q4 q5 σ', IN8 (c6 c k q1 q2 q3 q4 q5) (D6 D k) (V6 V k) (R6 Rf k) σ' → post σ') : P_X6_init a σ post := by
  have un : ∀ {E : Nat → Bool} {i j : Nat}, i ≠ j → E i = false → upD E j i = false := fun {E i j} hij h => by
    unfold upD; rw [if_neg hij]; exact h
  unfold P_X6_init
  intro q1 f1
  have h1 := h.arr k 0 ha hD f1 (hf 0 (by decide)) hk0 (by omega)
  refine ⟨(h.new f1 (hf 0 (by decide)) hk0 (by omega)).k k (by rw [upN_n (by omega)]; exact ha) (upD_o hD) hk, fun q2 f2 q3 f3 q4 f4 q5 f5 => ?_⟩
  have h2 := h1.1.arr k 1 h1.2.1 h1.2.2 f2 (un (by omega) (hf 1 (by decide))) (hk1 1 (by decide) (by decide)) (by omega)
  have h3 := h2.1.arr k 2 h2.2.1 h2.2.2 f3 (un (by omega) (un (by omega) (hf 2 (by decide)))) (hk1 2 (by decide) (by decide)) (by omega)
  have h4 := h3.1.arr k 3 h3.2.1 h3.2.2 f4 (un (by omega) (un (by omega) (un (by omega) (hf 3 (by decide))))) (hk1 3 (by decide) (by decide)) (by omega)
  have h5 := h4.1.arr k 4 h4.2.1 h4.2.2 f5 (un (by omega) (un (by omega) (un (by omega) (un (by omega) (hf 4 (by decide)))))) (hk1 4 (by decide) (by decide)) (by omega)
  exact hp q1 q2 q3 q4 q5 _ ((h5.1.wi k h5.2.1 h5.2.2).wi k h5.2.1 h5.2.2)
abbrev d0 : RD := (0, 0, 0, 0, 0)
abbrev ρ0 : RM := (0, fun _ => d0)
abbrev g00 : G1 := (ρ0, (fun _ => ρ0), 0)
abbrev t00 : G2 := (0, fun _ => 0)
abbrev sh00 : SHT := (0, (fun _ => 0), 0, fun _ => (0, 0, 0, 0))
abbrev rl00 : RLT := (0, fun _ => (0, 0, (fun _ => 0), fun _ => 0))
abbrev sc00 : SCT := (0, -1, 0)
theorem IN8.fin (h : IN8 c D V Rf σ) (hD : ∀ i, i < 26 → D i = true) (hr : ∀ u ∈ r8, Rf u.1 u.2.1 = some u.2.2) (h4 : Rf 0 4 = some 8) (h9 : Rf 0 9 = some 14) (h7 : ∀ j, j < 10 → Rf 7 j = none) (h2 : ∀ j, j < 60 → Rf 2 j = none) (hv : V 0 5 = 0 ∧ V 0 6 = 0 ∧ V 0 7 = -1 ∧ V 0 8 = 0 ∧ V 1 1 = 0 ∧ V 3 1 = 0 ∧ V 5 1 = 0 ∧ V 8 5 = 0 ∧ V 8 6 = 0) : T8 σ c 8 g00 t00 sh00 rl00 sc00 := by
  have h8k : ∀ i, k8 0 i ≠ none → i < 26 := fun i hi => by
    rcases k8_none hi with z | ⟨j, hj, z⟩
    · exact z
    · exact absurd hj (Nat.not_lt_zero _)
  have gkk : ∀ i u, i < 26 → k8l.getD i none = some u → gk σ (c i) = some u := fun i u hi hu => h.k i rfl (hD i hi) hu
  have gii : ∀ i z, i < 26 → gi σ (c i) z = V i z := fun i z hi => (h.1 i (hD i hi)).2.2.2.1 z
  have grr : ∀ i z, i < 26 → gr σ (c i) z = (Rf i z).map c := fun i z hi => (h.1 i (hD i hi)).2.2.2.2.1 z
  have ht : ∀ u ∈ r8, u.1 < 26 := by decide +kernel
  have gr8 : ∀ u ∈ r8, gr σ (c u.1) u.2.1 = some (c u.2.2) := fun u hu => by rw [grr _ _ (ht u hu), hr u hu]; rfl
  obtain ⟨v1, v2, v3, v4, v5, v6, v7, v8, v9⟩ := hv
  refine ⟨⟨fun i u hu => ?_, fun i j hi hj hij => h.2 i j (hD i (h8k i hi)) (hD j (h8k j hj)) hij, gr8, ⟨Or.inl rfl, by rw [grr 0 4 (by decide), h4]; rfl, by rw [grr 0 9 (by decide), h9]; rfl⟩, fun j hj => absurd hj (Nat.not_lt_zero _), fun j _ hj => by rw [grr 7 j (by decide), h7 j hj]; rfl, Nat.zero_le _⟩, ?_, ?_, ?_, ?_, fun j hj => absurd hj (Nat.not_lt_zero _), ?_⟩
  · have hi := h8k i (by rw [show k8 0 i = some u from hu]; exact fun z => by cases z)
    have hu : k8 0 i = some u := hu
    unfold k8 at hu
    rw [if_pos hi] at hu
    exact gkk i u hi hu
  · exact ⟨gkk 1 _ (by decide) rfl, gr8 (1, 0, 2) (by decide), gkk 2 _ (by decide) rfl, by rw [gii 1 1 (by decide), v5]; rfl, Nat.zero_le _, fun i hi => absurd hi (Nat.not_lt_zero _), fun i _ hi => by rw [grr 2 i (by decide), h2 i hi]; rfl⟩
  · exact ⟨gkk 3 _ (by decide) rfl, gr8 (3, 0, 4) (by decide), gkk 4 _ (by decide) rfl, by rw [gii 3 1 (by decide), v6]; rfl, Nat.zero_le _, fun i hi => absurd hi (Nat.not_lt_zero _)⟩
  · exact ⟨by rw [gii 5 1 (by decide), v7]; rfl, Nat.zero_le _, fun i hi => absurd hi (Nat.not_lt_zero _)⟩
  · exact ⟨by rw [gii 8 5 (by decide), v8]; rfl, by rw [gii 8 6 (by decide), v9]; rfl, Nat.zero_le _, Nat.zero_le _, fun i hi => absurd hi (Nat.not_lt_zero _), fun i hi => absurd hi (Nat.not_lt_zero _)⟩
  · exact ⟨by rw [gii 0 5 (by decide), v1]; rfl, by rw [gii 0 6 (by decide), v2], by rw [gii 0 7 (by decide), v3], by rw [gii 0 8 (by decide), v4]⟩
theorem X8_init {a : Nat} {post : Hp → Prop} (hp : ∀ σ' c, c 0 = a → T8 σ' c 8 g00 t00 sh00 rl00 sc00 → post σ') : P_X8_init a (nw σ a 8 0) post := by
  have h0 : IN8 (fun _ => a) (fun i => decide (i = 0)) (fun _ _ => 0) (fun _ _ => none) (nw σ a 8 0) := by
    refine ⟨fun i hi => ?_, fun i j hi hj _ => ?_⟩
    · have hi : i = 0 := by simpa using hi
      subst hi
      exact ⟨by decide, gk_new, by rw [gk_new]; exact fun z => (by cases z), fun z => by rw [gi_nw, if_pos rfl], fun z => by rw [gr_nw, if_pos rfl]; rfl, fun z j hj => by cases hj⟩
    · have hi : i = 0 := by simpa using hi
      have hj : j = 0 := by simpa using hj
      rw [hi, hj]
  unfold P_X8_init
  intro q1 f1
  refine (h0.new f1 (k := 1) rfl rfl (by decide)).i5 1 rfl rfl rfl rfl rfl (by decide) (fun r1 σ2 h2 => ⟨h2.k 0 rfl rfl rfl, fun q3 f3 => ?_⟩)
  refine ((h2.wr 0 1 rfl rfl rfl rfl).new f3 (k := 3) rfl rfl (by decide)).i0 3 rfl rfl rfl rfl rfl (by decide) (fun r2 σ4 h4 => ⟨h4.k 0 rfl rfl rfl, fun q5 f5 => ?_⟩)
  refine ((h4.wr 0 3 rfl rfl rfl rfl).new f5 (k := 5) rfl rfl (by decide)).i7 5 rfl rfl rfl rfl rfl (by decide) (fun r3 σ6 h6 => ⟨h6.k 0 rfl rfl rfl, fun q7 f7 q8 f8 => ?_⟩)
  refine ((((h6.wr 0 5 rfl rfl rfl rfl).new f7 (k := 7) rfl rfl (by decide)).wr 0 7 rfl rfl rfl rfl).new f8 (k := 8) rfl rfl (by decide)).i6 8 rfl rfl rfl (by decide) rfl (by decide) (by decide) (fun s1 s2 s3 s4 s5 σ9 h9 => ⟨h9.k 0 rfl rfl rfl, fun q10 f10 => ?_⟩)
  refine ((((((h9.wr 0 8 rfl rfl rfl rfl).wi 0 rfl rfl).wi 0 rfl rfl).wi 0 rfl rfl).wi 0 rfl rfl).new f10 (k := 14) rfl rfl (by decide)).i6 14 rfl rfl rfl (by decide) rfl (by decide) (by decide) (fun s6 s7 s8 s9 s10 σ11 h11 => ⟨h11.k 0 rfl rfl rfl, fun q12 f12 => ?_⟩)
  refine ((h11.wr 0 14 rfl rfl rfl rfl).new f12 (k := 20) rfl rfl (by decide)).i5 20 rfl rfl rfl rfl rfl (by decide) (fun r4 σ13 h13 => ⟨h13.k 0 rfl rfl rfl, fun q14 f14 => ?_⟩)
  refine ((h13.wr 0 20 rfl rfl rfl rfl).new f14 (k := 22) rfl rfl (by decide)).i1 22 rfl rfl rfl rfl rfl (by decide) (fun r5 σ15 h15 => ⟨h15.k 0 rfl rfl rfl, fun q16 f16 => ?_⟩)
  refine ((h15.wr 0 22 rfl rfl rfl rfl).new f16 (k := 24) rfl rfl (by decide)).i1 24 rfl rfl rfl rfl rfl (by decide) (fun r6 σ17 h17 => ⟨h17.k 0 rfl rfl rfl, ?_⟩)
  have hE := h17.wr (z := 12) 0 24 rfl rfl rfl rfl
  exact hp _ _ rfl (hE.fin (by decide +kernel) (by decide +kernel) rfl rfl (by decide +kernel) (by decide +kernel) (by decide +kernel))
end INIT8
