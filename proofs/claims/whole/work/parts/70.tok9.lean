/-! the reference's tokens -/
def srt (t : G2) (s : Nat) : Nat := if t.1 ≤ s then 0 else if isL (byt t s) = true then 1 else if isD (byt t s) = true then 2 else 3
def wdv (t : G2) (s : Nat) : Nat → Int
  | 0 => 0
  | m + 1 => if m < 5 then wdv t s m * 32 + (byt t (s + m)).toInt - 96 else -1
def dgv (t : G2) (s : Nat) : Nat → Int
  | 0 => 0
  | m + 1 => if 1000 < dgv t s m then dgv t s m else dgv t s m * 10 + (byt t (s + m)).toInt - 48
def wth (t : G2) (x : PS) : Int := if srt t x.1 = 0 then 0 else if srt t x.1 = 1 then wdv t x.1 (x.2.1 - x.1) else if srt t x.1 = 2 then dgv t x.1 (x.2.1 - x.1) else (byt t x.1).toInt
/-- the last item of part p among m -/
def lst (it : Nat → Nat × Nat × Nat × Nat) (p : Nat) : Nat → Int32
  | 0 => -1
  | m + 1 => if (it m).1 = p then nI m else lst it p m
/-- all that stays while the text is read -/
def F9 (σ0 : Hp) (a : Nat) (e : Nat → Nat) (σ : Hp) : Prop := SK σ0 σ ∧ Fr (W9 a e) σ0 σ ∧ (∀ k ∈ [1, 2, 9, 14, 33, 48, 53], gi σ a k = gi σ0 a k) ∧ ∀ j ∈ [3, 4, 5, 6, 7, 8, 10, 11, 12, 13, 15, 16, 17, 18, 19, 20, 32, 49, 50, 51, 52], ∀ k, gi σ (e j) k = gi σ0 (e j) k
/-- the shape so far, k parts open -/
def SHN (σ : Hp) (a : Nat) (e : Nat → Nat) (sh : SHT) (k : Nat) (op : Nat → Nat) : Prop := gi σ a 39 = 0 ∧ gi σ a 38 = -1 ∧ gi σ a 21 = nI sh.1 ∧ gi σ a 22 = nI sh.2.2.1 ∧ gi σ a 31 = nI k ∧
  (∀ p, p < sh.1 → gi σ (e 23) p = sh.2.1 p ∧ gi σ (e 24) p = nxt sh.2.2.2 p sh.2.2.1 0 ∧ gi σ (e 25) p = lst sh.2.2.2 p sh.2.2.1) ∧
  (∀ i, i < sh.2.2.1 → gi σ (e 26) i = nI (sh.2.2.2 i).2.1 ∧ ((sh.2.2.2 i).2.1 ≠ 0 → gi σ (e 27) i = nI (sh.2.2.2 i).2.2.1 ∧ gi σ (e 28) i = nI (sh.2.2.2 i).2.2.2) ∧ gi σ (e 29) i = nxt sh.2.2.2 (sh.2.2.2 i).1 (sh.2.2.1 - (i + 1)) (i + 1)) ∧
  ∀ j, j < k → gi σ (e 30) j = nI (op j)
def TK9 (σ : Hp) (a : Nat) (t : G2) (x : PS) : Prop := gi σ a 34 = nI x.1 ∧ gi σ a 35 = nI x.2.1 ∧ gi σ a 36 = nI (srt t x.1) ∧ (gl σ a 37).toInt = wth t x
def R9x (σ0 : Hp) (a : Nat) (e : Nat → Nat) (t : G2) (σ : Hp) (x : PS) (k : Nat) (op : Nat → Nat) : Prop := F9 σ0 a e σ ∧ SHN σ a e x.2.2.1 k op ∧ TK9 σ a t x
def B9 (σ0 : Hp) (a : Nat) (e : Nat → Nat) (σ : Hp) (s : Nat) : Prop := F9 σ0 a e σ ∧ gi σ a 39 = 1 ∧ gi σ a 38 = nI s
/-- the reference, and its text -/
def C9 (σ0 : Hp) (a : Nat) (e : Nat → Nat) (g : G1) (t : G2) (sh : SHT) (rl : RLT) (sc : SCT) : Prop := T9 σ0 a e g t sh rl sc ∧ TOK t
theorem ladd {x y : Int64} (h1 : -9223372036854775808 ≤ x.toInt + y.toInt) (h2 : x.toInt + y.toInt < 9223372036854775808) : (x + y).toInt = x.toInt + y.toInt := by
  rw [Int64.toInt_add, l64bm h1 h2]
theorem lmul {x y : Int64} (h1 : -9223372036854775808 ≤ x.toInt * y.toInt) (h2 : x.toInt * y.toInt < 9223372036854775808) : (x * y).toInt = x.toInt * y.toInt := by
  rw [Int64.toInt_mul, l64bm h1 h2]
theorem leq (x y : Int64) : x = y ↔ x.toInt = y.toInt := (Int64.toInt_inj).symm
theorem isL_i {b : Int32} : isL b = true ↔ 97 ≤ b.toInt ∧ b.toInt ≤ 122 := by unfold isL; rw [decide_eq_true_eq]
theorem isD_i {b : Int32} : isD b = true ↔ 48 ≤ b.toInt ∧ b.toInt ≤ 57 := by unfold isD; rw [decide_eq_true_eq]
theorem wdv_b {t : G2} {s : Nat} : ∀ m, m ≤ 5 → (∀ i, i < m → isL (byt t (s + i)) = true) → 0 ≤ wdv t s m ∧ wdv t s m < 32 ^ m
  | 0, _, _ => by unfold wdv; omega
  | m + 1, hm, h => by
    have ih := wdv_b (t := t) (s := s) m (by omega) (fun i hi => h i (by omega))
    have hb := isL_i.mp (h m (by omega))
    rw [show wdv t s (m + 1) = if m < 5 then wdv t s m * 32 + (byt t (s + m)).toInt - 96 else -1 from rfl, if_pos (by omega), Int.pow_succ]
    omega
theorem p32 : ∀ m, m ≤ 5 → (32 : Int) ^ m ≤ 33554432 := by decide
theorem dgv_b {t : G2} {s : Nat} : ∀ m, (∀ i, i < m → isD (byt t (s + i)) = true) → 0 ≤ dgv t s m ∧ dgv t s m ≤ 10009
  | 0, _ => by unfold dgv; omega
  | m + 1, h => by
    have ih := dgv_b (t := t) (s := s) m (fun i hi => h i (by omega))
    have hb := isD_i.mp (h m (by omega))
    rw [show dgv t s (m + 1) = if 1000 < dgv t s m then dgv t s m else dgv t s m * 10 + (byt t (s + m)).toInt - 48 from rfl]
    split <;> omega
theorem X9_isSmall {b : Int32} {σ : Hp} {post : Int32 → Hp → Prop} (h1 : isL b = true → post 1 σ) (h0 : ¬ isL b = true → post 0 σ) : P_X9_isSmall b σ post := X2_isLetter h1 h0
theorem X9_isDigit {b : Int32} {σ : Hp} {post : Int32 → Hp → Prop} (h1 : isD b = true → post 1 σ) (h0 : ¬ isD b = true → post 0 σ) : P_X9_isDigit b σ post := X2_isDigit h1 h0
section TOK9
variable {σ σ' σ0 : Hp} {a : Nat} {e : Nat → Nat} {g : G1} {t : G2} {sh : SHT} {rl : RLT} {sc : SCT} {x : PS} {k : Nat} {op : Nat → Nat}
theorem F9.wa (h : F9 σ0 a e σ) (hL : L9 σ0 a e) {q : Nat} (v : Int32) (hq : q ∉ [1, 2, 9, 14, 33, 48, 53]) : F9 σ0 a e (si σ a q v) := by
  obtain ⟨h1, h2, h3, h4⟩ := h
  exact ⟨h1.tr (SK.wi _ _ _), h2.ob _ _, fun k hk => by rw [gi_sk (fun z => hq (by rw [← z]; exact hk))]; exact h3 k hk, fun j hj k => by rw [gi_sa (hL.na j (k9_l j hj))]; exact h4 j hj k⟩
theorem F9.wl (h : F9 σ0 a e σ) (v : Int64) : F9 σ0 a e (sl σ a 37 v) := by
  obtain ⟨h1, h2, h3, h4⟩ := h
  exact ⟨h1.tr ⟨fun _ => rfl, fun _ _ => rfl⟩, h2.wl _ (Or.inl rfl), h3, h4⟩
theorem k9_n (j : Nat) (h1 : 23 ≤ j) (h2 : j ≤ 30) : k9 j ≠ none := by
  have : ∀ j, j < 31 → 23 ≤ j → k9 j ≠ none := by decide +kernel
  exact this j (by omega) h1
theorem F9.we (h : F9 σ0 a e σ) (hL : L9 σ0 a e) {j q : Nat} (v : Int32) (hj : 23 ≤ j ∧ j ≤ 30) : F9 σ0 a e (si σ (e j) q v) := by
  obtain ⟨h1, h2, h3, h4⟩ := h
  have hk := k9_n j hj.1 hj.2
  have hl : ∀ i ∈ [3, 4, 5, 6, 7, 8, 10, 11, 12, 13, 15, 16, 17, 18, 19, 20, 32, 49, 50, 51, 52], ¬ (23 ≤ i ∧ i ≤ 30) := by decide
  exact ⟨h1.tr (SK.wi _ _ _), h2.wi _ (Or.inr ⟨j, hk, rfl⟩), fun k hk' => by rw [gi_sa (Ne.symm (hL.na j hk))]; exact h3 k hk', fun i hi k => by rw [gi_sa (hL.ne (k9_l i hi) hk (fun z => hl i hi (by omega)))]; exact h4 i hi k⟩
theorem SHN.wa (h : SHN σ a e sh k op) (hL : L9 σ0 a e) {q : Nat} (v : Int32) (hq : q ∉ [21, 22, 31, 38, 39]) : SHN (si σ a q v) a e sh k op := by
  obtain ⟨h1, h2, h3, h4, h5, h6, h7, h8⟩ := h
  have hk : ∀ j ∈ [21, 22, 31, 38, 39], gi (si σ a q v) a j = gi σ a j := fun j hj => gi_sk (fun z => hq (by rw [← z]; exact hj))
  have he : ∀ j, 23 ≤ j → j ≤ 30 → ∀ z, gi (si σ a q v) (e j) z = gi σ (e j) z := fun j h1 h2 z => gi_sa (hL.na j (k9_n j h1 h2))
  unfold SHN
  simp only [hk 39 (by decide), hk 38 (by decide), hk 21 (by decide), hk 22 (by decide), hk 31 (by decide), he 23 (by decide) (by decide), he 24 (by decide) (by decide), he 25 (by decide) (by decide), he 26 (by decide) (by decide), he 27 (by decide) (by decide), he 28 (by decide) (by decide), he 29 (by decide) (by decide), he 30 (by decide) (by decide)]
  exact ⟨h1, h2, h3, h4, h5, h6, h7, h8⟩
theorem SHN.wl (h : SHN σ a e sh k op) (v : Int64) : SHN (sl σ a 37 v) a e sh k op := h
theorem C9.L (hC : C9 σ0 a e g t sh rl sc) (h : F9 σ0 a e σ) : L9 σ a e := hC.1.1.sk h.1
/-- the tape while the text is read -/
theorem C9.tape (hC : C9 σ0 a e g t sh rl sc) (h : F9 σ0 a e σ) : gi σ a 33 = nI t.1 ∧ (∀ i, i < t.1 → gi σ (e 32) i = byt t i) := by
  obtain ⟨h1, h2, h3, h4⟩ := h
  obtain ⟨t1, t2⟩ := hC.1.2.2.2.1
  refine ⟨by rw [h3 33 (by decide)]; exact t1, fun i hi => ?_⟩
  rw [h4 32 (by decide), t2 i hi]
  unfold byt; rw [if_pos hi]
/-- in the midst of a token: from s, to p -/
def NX (σ0 : Hp) (a : Nat) (e : Nat → Nat) (σ : Hp) (sh : SHT) (k : Nat) (op : Nat → Nat) (s p : Nat) (w : Int) : Prop := F9 σ0 a e σ ∧ SHN σ a e sh k op ∧ gi σ a 34 = nI s ∧ gi σ a 35 = nI p ∧ (gl σ a 37).toInt = w
theorem NX.step {s p : Nat} {w w' : Int} {sh' : SHT} (h : NX σ0 a e σ sh' k op s p w) (hL : L9 σ0 a e) {v : Int64} (hv : v.toInt = w') : NX σ0 a e (si (sl σ a 37 v) a 35 (nI (p + 1))) sh' k op s (p + 1) w' := by
  obtain ⟨h1, h2, h3, h4, h5⟩ := h
  refine ⟨(h1.wl v).wa hL _ (by decide), (h2.wl v).wa hL _ (by decide), ?_, gi_ss, ?_⟩
  · rw [gi_sk (by decide)]; exact h3
  · rw [gl_si, gl_sl, if_pos ⟨rfl, rfl⟩]; exact hv
theorem C9.word (hC : C9 σ0 a e g t sh rl sc) {I K : Hp → Prop} {post : Hp → Prop} (hI : ∀ τ, F_X9_next_149 a post K I τ → I τ) {sh' : SHT} {s en : Nat} (hK : ∀ σ', NX σ0 a e σ' sh' k op s en (wdv t s (en - s)) → gi σ' a 36 = 1 → K σ') : ∀ n m σ, n = 200 - (s + m) → s + m ≤ t.1 → (∀ i, i < m → isL (byt t (s + i)) = true) → run t isL n (s + m) = en → NX σ0 a e σ sh' k op s (s + m) (wdv t s m) → gi σ a 36 = 1 → I σ := by
  have hT := hC.2
  have h200 : t.1 ≤ 200 := hT.1
  intro n
  induction n with
  | zero =>
    intro m σ hn hm hl hr h h36
    have hL := hC.L h.1
    have htp := hC.tape h.1
    have hen : s + m = en := hr
    have hms : m = en - s := by omega
    refine hI _ ⟨hL.1, fun z => absurd h36 z, fun _ => ⟨fun _ => hK σ (by rw [← hms, ← hen]; exact h) h36, fun z => ?_⟩⟩
    rw [htp.1, h.2.2.2.1, ile, nIi (by omega), nIi (by omega)] at z
    omega
  | succ n ih =>
    intro m σ hn hm hl hr h h36
    have hL := hC.L h.1
    have htp := hC.tape h.1
    have stop : ¬ isL (byt t (s + m)) = true → K σ := fun z => by
      rw [run_0 t isL z] at hr
      have hms : m = en - s := by omega
      exact hK σ (by rw [← hms, ← hr]; exact h) h36
    have e35 : gi σ a 35 = nI (s + m) := h.2.2.2.1
    have e34 : gi σ a 34 = nI s := h.2.2.1
    refine hI _ ⟨hL.1, fun z => absurd h36 z, fun _ => ⟨fun z => ?_, fun z => ?_⟩⟩
    · rw [htp.1, e35, ile, nIi (by omega), nIi (by omega)] at z
      refine stop (fun y => ?_)
      rw [(byt_m1 hT).mpr (by omega)] at y
      exact absurd y (by decide)
    · rw [htp.1, e35, ile, nIi (by omega), nIi (by omega)] at z
      have hlt : s + m < t.1 := by omega
      refine ⟨e 32, hL.r 32 rfl, 200, hL.k 32 rfl, by rw [e35]; exact vinN (by omega) (by decide), ?_⟩
      rw [e35, clN (by omega), htp.2 _ hlt]
      refine X9_isSmall (fun y => ⟨fun w => absurd w (by decide), fun _ => ⟨hL.1, fun w => ?_, fun w => ⟨e 32, hL.r 32 rfl, 200, hL.k 32 rfl, by rw [e35]; exact vinN (by omega) (by decide), ?_⟩⟩⟩) (fun y => ⟨fun _ => stop y, fun w => absurd rfl w⟩)
      · rw [e35, e34, pk_sub (by omega), ile, nIi (by omega), show (5 : Int32).toInt = 5 by decide] at w
        rw [e35, nI_1]
        rw [run_1 t isL y] at hr
        refine ih (m + 1) _ (by omega) (by omega) (fun i hi => ?_) hr (h.step hC.1.1 ?_) (by rw [gi_sk (by decide)]; exact h36)
        · by_cases hiv : i = m
          · rw [hiv]; exact y
          · exact hl i (by omega)
        · rw [show wdv t s (m + 1) = if m < 5 then wdv t s m * 32 + (byt t (s + m)).toInt - 96 else -1 from rfl, if_neg (by omega)]
          decide
      · rw [e35, e34, pk_sub (by omega), ile, nIi (by omega), show (5 : Int32).toInt = 5 by decide] at w
        rw [e35, nI_1, clN (by omega), htp.2 _ hlt]
        rw [run_1 t isL y] at hr
        refine ih (m + 1) _ (by omega) (by omega) (fun i hi => ?_) hr (h.step hC.1.1 ?_) (by rw [gi_sk (by decide)]; exact h36)
        · by_cases hiv : i = m
          · rw [hiv]; exact y
          · exact hl i (by omega)
        · rw [show wdv t s (m + 1) = if m < 5 then wdv t s m * 32 + (byt t (s + m)).toInt - 96 else -1 from rfl, if_pos (by omega)]
          have hb := wdv_b (t := t) (s := s) m (by omega) hl
          have hp := p32 m (by omega)
          have hy := isL_i.mp y
          have h5 := h.2.2.2.2
          have e32 : (32 : Int64).toInt = 32 := by decide
          have e96 : (96 : Int64).toInt = 96 := by decide
          have m1 : (gl σ a 37 * (32 : Int64)).toInt = wdv t s m * 32 := by rw [lmul (by rw [h5, e32]; omega) (by rw [h5, e32]; omega), h5, e32]
          have m2 : (gl σ a 37 * (32 : Int64) + Int32.toInt64 (byt t (s + m))).toInt = wdv t s m * 32 + (byt t (s + m)).toInt := by rw [ladd (by rw [m1, i64of]; omega) (by rw [m1, i64of]; omega), m1, i64of]
          rw [lsub (by rw [m2, e96]; omega) (by rw [m2, e96]; omega), m2, e96]
theorem C9.digs (hC : C9 σ0 a e g t sh rl sc) {I : Hp → Prop} {post : Hp → Prop} (hI : ∀ τ, F_X9_next_242 a post I τ → I τ) {sh' : SHT} {s en : Nat} (hK : ∀ σ', NX σ0 a e σ' sh' k op s en (dgv t s (en - s)) → gi σ' a 36 = 2 → post σ') : ∀ n m σ, n = 200 - (s + m) → s + m ≤ t.1 → (∀ i, i < m → isD (byt t (s + i)) = true) → run t isD n (s + m) = en → NX σ0 a e σ sh' k op s (s + m) (dgv t s m) → gi σ a 36 = 2 → I σ := by
  have hT := hC.2
  have h200 : t.1 ≤ 200 := hT.1
  intro n
  induction n with
  | zero =>
    intro m σ hn hm hl hr h h36
    have hL := hC.L h.1
    have htp := hC.tape h.1
    have hen : s + m = en := hr
    have hms : m = en - s := by omega
    refine hI _ ⟨hL.1, fun z => absurd h36 z, fun _ => ⟨fun _ => hK σ (by rw [← hms, ← hen]; exact h) h36, fun z => ?_⟩⟩
    rw [htp.1, h.2.2.2.1, ile, nIi (by omega), nIi (by omega)] at z
    omega
  | succ n ih =>
    intro m σ hn hm hl hr h h36
    have hL := hC.L h.1
    have htp := hC.tape h.1
    have stop : ¬ isD (byt t (s + m)) = true → post σ := fun z => by
      rw [run_0 t isD z] at hr
      have hms : m = en - s := by omega
      exact hK σ (by rw [← hms, ← hr]; exact h) h36
    have e35 : gi σ a 35 = nI (s + m) := h.2.2.2.1
    have e34 : gi σ a 34 = nI s := h.2.2.1
    refine hI _ ⟨hL.1, fun z => absurd h36 z, fun _ => ⟨fun z => ?_, fun z => ?_⟩⟩
    · rw [htp.1, e35, ile, nIi (by omega), nIi (by omega)] at z
      refine stop (fun y => ?_)
      rw [(byt_m1 hT).mpr (by omega)] at y
      exact absurd y (by decide)
    · rw [htp.1, e35, ile, nIi (by omega), nIi (by omega)] at z
      have hlt : s + m < t.1 := by omega
      refine ⟨e 32, hL.r 32 rfl, 200, hL.k 32 rfl, by rw [e35]; exact vinN (by omega) (by decide), ?_⟩
      rw [e35, clN (by omega), htp.2 _ hlt]
      have hb := dgv_b (t := t) (s := s) m hl
      have h5 := h.2.2.2.2
      have e1000 : (1000 : Int64).toInt = 1000 := by decide
      refine X9_isDigit (fun y => ⟨fun w => absurd w (by decide), fun _ => ⟨hL.1, fun w => ⟨e 32, hL.r 32 rfl, 200, hL.k 32 rfl, by rw [e35]; exact vinN (by omega) (by decide), ?_⟩, fun w => ?_⟩⟩) (fun y => ⟨fun _ => stop y, fun w => absurd rfl w⟩)
      · rw [lg_cmp_le, i64le, h5, e1000] at w
        rw [e35, nI_1, clN (by omega), htp.2 _ hlt]
        rw [run_1 t isD y] at hr
        refine ih (m + 1) _ (by omega) (by omega) (fun i hi => ?_) hr (h.step hC.1.1 ?_) (by rw [gi_sk (by decide)]; exact h36)
        · by_cases hiv : i = m
          · rw [hiv]; exact y
          · exact hl i (by omega)
        · rw [show dgv t s (m + 1) = if 1000 < dgv t s m then dgv t s m else dgv t s m * 10 + (byt t (s + m)).toInt - 48 from rfl, if_neg (by omega)]
          have hy := isD_i.mp y
          have e10 : (10 : Int64).toInt = 10 := by decide
          have e48 : (48 : Int64).toInt = 48 := by decide
          have m1 : (gl σ a 37 * (10 : Int64)).toInt = dgv t s m * 10 := by rw [lmul (by rw [h5, e10]; omega) (by rw [h5, e10]; omega), h5, e10]
          have m2 : (gl σ a 37 * (10 : Int64) + Int32.toInt64 (byt t (s + m))).toInt = dgv t s m * 10 + (byt t (s + m)).toInt := by rw [ladd (by rw [m1, i64of]; omega) (by rw [m1, i64of]; omega), m1, i64of]
          rw [lsub (by rw [m2, e48]; omega) (by rw [m2, e48]; omega), m2, e48]
      · rw [lg_cmp_le, i64le, h5, e1000] at w
        rw [e35, nI_1]
        rw [run_1 t isD y] at hr
        refine ih (m + 1) _ (by omega) (by omega) (fun i hi => ?_) hr (h.step hC.1.1 ?_) (by rw [gi_sk (by decide)]; exact h36)
        · by_cases hiv : i = m
          · rw [hiv]; exact y
          · exact hl i (by omega)
        · rw [show dgv t s (m + 1) = if 1000 < dgv t s m then dgv t s m else dgv t s m * 10 + (byt t (s + m)).toInt - 48 from rfl, if_pos (by omega)]
          exact h5
end TOK9
