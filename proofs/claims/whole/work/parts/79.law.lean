/-! the law holds -/
theorem TIE.new {a8 a9 : Nat} {σ2 σ4 : Hp} {c e : Nat → Nat} (h0 : c 0 = a8) (h8 : T8 σ2 c 8 g00 t00 sh00 rl00 sc00) (h9 : T9 σ4 a9 e g00 t00 sh00 rl00 sc00) (hA : Ag (fun _ => False) (fun _ => False) σ2 σ4) (he : ∀ k, k9 k ≠ none → gk σ2 (e k) = none) : TIE a8 a9 σ4 := by
  have w0 : WFR ρ0 := ⟨Nat.zero_le _, fun i hi => absurd hi (Nat.not_lt_zero _)⟩
  exact ⟨c, e, 8, g00, t00, sh00, rl00, sc00, h0, h8.ag hA (fun _ _ => ⟨id, id⟩) (fun _ _ => id), h9, fun i j hi hj z => h8.1.some hi (by rw [z]; exact he j hj), ⟨rfl, rfl, fun _ _ => w0⟩, ⟨fun _ => 0, rfl, Nat.zero_le _, Nat.zero_le _, fun p hp => absurd hp (Nat.not_lt_zero _), fun i hi => absurd hi (Nat.not_lt_zero _)⟩, ⟨Nat.zero_le _, fun j hj => absurd hj (Nat.not_lt_zero _)⟩⟩
theorem TIE.k8 {a8 a9 : Nat} {σ : Hp} (h : TIE a8 a9 σ) : gk σ a8 = some (8, 0) := by
  obtain ⟨c, e, s, g, t, sh, rl, sc, rfl, hT8, -⟩ := h
  exact hT8.1.k 0 (by decide) rfl
set_option maxHeartbeats 4000000 in
theorem law_turns {L : Nat} {xs : Nat → Int32} (hL : L ≤ 3072) {a1 a2 : Nat} {σ : Hp} (h : TIE a1 a2 σ) : lfp2 (F_law L xs a1 a2) (0 : Int32) 0 σ := by
  intro I hI
  have key : ∀ m n σ, n + m = 512 → TIE a1 a2 σ → I (nI (6 * n)) n σ := by
    intro m
    induction m with
    | zero =>
      intro n σ hn hT
      obtain rfl : n = 512 := by omega
      refine hI _ _ _ ⟨Nat.le_refl _, fun _ => True.intro, fun z => ?_⟩
      have e6 : (6 : Int32).toInt = 6 := by decide
      have eL : (Int32.ofNat L).toInt = (L : Int) := by rw [ofn, nIi (by omega)]
      rw [ilt, isub (by rw [eL, e6]; omega) (by rw [eL, e6]; omega), eL, e6, nIi (by decide)] at z
      omega
    | succ m ih =>
      intro n σ hn hT
      have hK : ∀ σ', TIE a1 a2 σ' → I (nI (6 * n) + (6 : Int32)) (n + 1) σ' := fun σ' h' => by
        rw [show nI (6 * n) + (6 : Int32) = nI (6 * (n + 1)) from by rw [show (6 : Int32) = nI 6 from rfl, nI_add, Nat.mul_succ]]
        exact ih (n + 1) σ' (by omega) h'
      have hk := hT.k8
      refine hI _ _ _ ⟨by omega, fun _ => True.intro, fun z => ?_⟩
      have e6 : (6 : Int32).toInt = 6 := by decide
      have eL : (Int32.ofNat L).toInt = (L : Int) := by rw [ofn, nIi (by omega)]
      rw [ilt, isub (by rw [eL, e6]; omega) (by rw [eL, e6]; omega), eL, e6, nIi (by omega)] at z
      have v0 : vp_in (nI (6 * n)) L := vinN (by omega) (by omega)
      have v1 : vp_in (nI (6 * n) + (1 : Int32)) L := by
        rw [show (1 : Int32) = nI 1 from rfl, nI_add]
        exact vinN (by omega) (by omega)
      have v2 : vp_in (nI (6 * n) + (2 : Int32)) L := by
        rw [show (2 : Int32) = nI 2 from rfl, nI_add]
        exact vinN (by omega) (by omega)
      have v3 : vp_in (nI (6 * n) + (3 : Int32)) L := by
        rw [show (3 : Int32) = nI 3 from rfl, nI_add]
        exact vinN (by omega) (by omega)
      have v4 : vp_in (nI (6 * n) + (4 : Int32)) L := by
        rw [show (4 : Int32) = nI 4 from rfl, nI_add]
        exact vinN (by omega) (by omega)
      have v5 : vp_in (nI (6 * n) + (5 : Int32)) L := by
        rw [show (5 : Int32) = nI 5 from rfl, nI_add]
        exact vinN (by omega) (by omega)
      refine ⟨by omega, v0, fun _ => hK σ hT, fun _ => ⟨v1, v2, v3, v4, hk, call_row hT hK (fun r1 σ1 hq => ⟨v1, v2, v3, v4, hq⟩)⟩,
        fun _ => ⟨v1, v2, hk, call_value hT hK (fun r1 σ1 hq => ⟨v1, v2, hq⟩)⟩,
        fun _ => ⟨v1, v2, v3, hk, call_refer hT hK (fun r1 σ1 hq => ⟨v1, v2, v3, hq⟩)⟩,
        fun _ => ⟨v1, hk, call_go hT hK (fun r1 σ1 hq => ⟨v1, hq⟩)⟩,
        fun _ => ⟨v1, v2, hk, call_of hT hK (fun r1 σ1 hq => ⟨v1, v2, hq⟩)⟩,
        fun _ => ⟨v1, v2, v3, v4, v5, hk, call_feed hT hK (fun r1 σ1 hq => ⟨v1, v2, v3, v4, v5, hq⟩)⟩,
        fun _ => ⟨v1, hk, call_end hT hK (fun r1 σ1 hq => ⟨v1, hq⟩)⟩,
        fun _ => ⟨hk, call_shape hT hK (fun r1 σ1 hq => hq)⟩,
        fun _ => ⟨hk, call_fault hT hK (fun r1 σ1 hq => hq)⟩,
        fun _ => ⟨v1, hk, call_size hT hK (fun r1 σ1 hq => ⟨v1, hq⟩)⟩,
        fun _ => ⟨v1, v2, hk, call_mark hT hK (fun r1 σ1 hq => ⟨v1, v2, hq⟩)⟩,
        fun _ => ⟨v1, v2, v3, v4, hk, call_page hT hK (fun r1 σ1 hq => ⟨v1, v2, v3, v4, hq⟩)⟩,
        fun _ => ⟨v1, hk, call_reader hT hK (fun r1 σ1 hq => ⟨v1, hq⟩)⟩,
        fun _ => ⟨hk, call_send hT hK (fun r1 σ1 hq => hq)⟩,
        fun _ => ⟨v1, v2, hk, call_holds hT hK (fun r1 σ1 hq => ⟨v1, v2, hq⟩)⟩,
        fun _ => ⟨v1, hk, call_same hT hK (fun r1 σ1 hq => ⟨v1, hq⟩)⟩,
        fun _ => ⟨v1, v2, v3, hk, call_edit hT hK (fun r1 σ1 hq => ⟨v1, v2, v3, hq⟩)⟩,
        fun _ => ⟨v1, v2, v3, hk, call_asOf hT hK (fun r1 σ1 hq => ⟨v1, v2, v3, hq⟩)⟩,
        fun _ => ⟨v1, v2, hk, call_touched hT hK (fun r1 σ1 hq => ⟨v1, v2, hq⟩)⟩,
        fun _ => ⟨v1, hk, call_count hT hK (fun r1 σ1 hq => ⟨v1, hq⟩)⟩,
        fun _ => ⟨hk, call_status hT hK (fun r1 σ1 hq => hq)⟩⟩
  exact key 512 0 σ rfl h
theorem law_all (L : Nat) (xs : Nat → Int32) (σ : Hp) (hL : L ≤ 3072) : P_law L xs σ := by
  unfold P_law
  intro q1 f1
  exact X8_init (fun σ2 c h0 h8 => fun q3 f3 => X9_init f3 (fun σ4 e h9 hA he => law_turns hL (TIE.new h0 h8 h9 hA he)))
