def P_X8_isValue (x1 : Int32) (σ : Hp) (post : Int32 → Hp → Prop) : Prop :=
  (x1 < (-1000 : Int32) → post (0 : Int32) σ) ∧ (¬ (x1 < (-1000 : Int32)) → ((1000 : Int32) < x1 → post (0 : Int32) σ) ∧ (¬ ((1000 : Int32) < x1) → post (1 : Int32) σ))
set_option maxHeartbeats 2000000 in
set_option maxRecDepth 100000 in
theorem m_X8_isValue (l : Launch) (G : GG) (N0 : Nat) (x1 : Int32) (σ : Hp) (post : Int32 → Hp → Prop) (hP : P_X8_isValue x1 σ post) : MM l G N0 yX8_isValue cX8_isValue 1 (some .boolean) (0) (0) 0 0 [.int x1] σ (pI post) := by
  refine MM.of (by decide) (Nat.le_of_ble_eq_true rfl) ?_
  intro p e s m args below meth c X hr hnm
  refine V.to (lv2 := [(0, .int x1)]) [0] rfl rfl ?_
  unfold P_X8_isValue at hP
  refine V_iload_n X dX8_isValue_0 rfl 0 rfl ?_
  refine V_sipush X (v := (-1000 : Int32)) dX8_isValue_1 (by decide) ?_
  refine V_icmp_lt X (tgt := 18) dX8_isValue_4 (by decide) (fun h1 => ?_) (fun h1 => ?_)
  · have hP := hP.1 h1
    refine V_iconst X (v := (0 : Int32)) dX8_isValue_18 (by decide) ?_
    exact V_iret X hr (Or.inr ⟨rfl, Or.inl rfl⟩) (Nat.le_of_ble_eq_true rfl) (Nat.le_of_ble_eq_true rfl) dX8_isValue_19 ⟨_, rfl, hP⟩
  · have hP := hP.2 h1
    refine V_iload_n X dX8_isValue_7 rfl 0 rfl ?_
    refine V_sipush X (v := (1000 : Int32)) dX8_isValue_8 (by decide) ?_
    refine V_icmp_gt X (tgt := 18) dX8_isValue_11 (by decide) (fun h2 => ?_) (fun h2 => ?_)
    · have hP := hP.1 h2
      refine V_iconst X (v := (0 : Int32)) dX8_isValue_18 (by decide) ?_
      exact V_iret X hr (Or.inr ⟨rfl, Or.inl rfl⟩) (Nat.le_of_ble_eq_true rfl) (Nat.le_of_ble_eq_true rfl) dX8_isValue_19 ⟨_, rfl, hP⟩
    · have hP := hP.2 h2
      refine V_iconst X (v := (1 : Int32)) dX8_isValue_14 (by decide) ?_
      refine V_goto X (tgt := 19) dX8_isValue_15 (by decide) ?_
      exact V_iret X hr (Or.inr ⟨rfl, Or.inr rfl⟩) (Nat.le_of_ble_eq_true rfl) (Nat.le_of_ble_eq_true rfl) dX8_isValue_19 ⟨_, rfl, hP⟩
def P_X0_add (a0 : Nat) (a1 : Nat) (σ : Hp) (post : Hp → Prop) : Prop :=
  gk σ a0 = some (0, 0) ∧ ((gi σ a0 1) < 0 → post σ) ∧ (¬ ((gi σ a0 1) < 0) → ∃ b1 : Nat, (gr σ a0 0) = some b1 ∧ ∃ n2 : Nat, gk σ b1 = some (13, n2) ∧ ((gi σ a0 1) < (Int32.ofNat n2) → vp_in (gi σ a0 1) n2 ∧ gk σ a1 = some (4, 0) ∧ post (si (sr σ b1 (Int32.toNatClampNeg (gi σ a0 1)) (some a1)) a0 1 ((gi σ a0 1) + (1 : Int32)))) ∧ (¬ ((gi σ a0 1) < (Int32.ofNat n2)) → post σ))
set_option maxHeartbeats 2000000 in
set_option maxRecDepth 100000 in
theorem m_X0_add (l : Launch) (G : GG) (N0 : Nat) (a0 : Nat) (a1 : Nat) (σ : Hp) (post : Hp → Prop) (hP : P_X0_add a0 a1 σ post) : MM l G N0 yX0_add cX0_add 2 none (0) (0) 0 0 [.ref a0, .ref a1] σ (pV post) := by
  refine MM.of (by decide) (Nat.le_of_ble_eq_true rfl) ?_
  intro p e s m args below meth c X hr hnm
  refine V.to (lv2 := [(0, .ref a0), (1, .ref a1)]) [0, 1] rfl rfl ?_
  unfold P_X0_add at hP
  refine V_aload_n X dX0_add_0 rfl 0 rfl ?_
  obtain ⟨h1, hP⟩ := hP
  refine V_geti X kf_RX0_17 rfl h1 dX0_add_1 ?_
  refine V_if_lt X (tgt := 19) dX0_add_4 (by decide) (fun h2 => ?_) (fun h2 => ?_)
  · have hP := hP.1 h2
    exact V_vret X hr (Nat.le_of_ble_eq_true rfl) (Nat.le_of_ble_eq_true rfl) dX0_add_19 ⟨rfl, hP⟩
  · have hP := hP.2 h2
    refine V_aload_n X dX0_add_7 rfl 0 rfl ?_
    refine V_geti X kf_RX0_17 rfl h1 dX0_add_8 ?_
    refine V_aload_n X dX0_add_11 rfl 0 rfl ?_
    refine V_getr X kf_RX0_11 rfl h1 dX0_add_12 ?_
    obtain ⟨b1, h3, hP⟩ := hP
    refine V_dr0 h3 ?_
    obtain ⟨n2, h4, hP⟩ := hP
    refine V_alen X (Or.inr (Or.inr (Or.inr rfl))) h4 dX0_add_15 ?_
    refine V_icmp_lt X (tgt := 20) dX0_add_16 (by decide) (fun h5 => ?_) (fun h5 => ?_)
    · have hP := hP.1 h5
      refine V_aload_n X dX0_add_20 rfl 0 rfl ?_
      refine V_getr X kf_RX0_11 rfl h1 dX0_add_21 ?_
      refine V_aload_n X dX0_add_24 rfl 0 rfl ?_
      refine V_geti X kf_RX0_17 rfl h1 dX0_add_25 ?_
      refine V_aload_n X dX0_add_28 rfl 1 rfl ?_
      refine V_dr2 h3 ?_
      obtain ⟨h6, hP⟩ := hP
      obtain ⟨h7, hP⟩ := hP
      refine V_aast X (x := (some a1)) (Or.inr ⟨rfl, rfl⟩) h4 h6 (fun v h => ⟨_, by cases h; exact h7⟩) dX0_add_29 ?_
      refine V_aload_n X dX0_add_30 rfl 0 rfl ?_
      refine V_dup X dX0_add_31 rfl ?_
      refine V_geti X kf_RX0_17 rfl h1 dX0_add_32 ?_
      rw [show gi (sr σ b1 (Int32.toNatClampNeg (gi σ a0 1)) (some a1)) a0 1 = (gi σ a0 1) from rfl]
      refine V_iconst X (v := (1 : Int32)) dX0_add_35 (by decide) ?_
      refine V_iadd X dX0_add_36 ?_
      refine V_puti X kf_RX0_17 (fun h => by cases h) rfl h1 (Or.inl rfl) dX0_add_37 ?_
      exact V_vret X hr (Nat.le_of_ble_eq_true rfl) (Nat.le_of_ble_eq_true rfl) dX0_add_40 ⟨rfl, hP⟩
    · have hP := hP.2 h5
      exact V_vret X hr (Nat.le_of_ble_eq_true rfl) (Nat.le_of_ble_eq_true rfl) dX0_add_19 ⟨rfl, hP⟩
def P_X0_init (a0 : Nat) (σ : Hp) (post : Hp → Prop) : Prop :=
  ∀ q1 : Nat, gk σ q1 = none → gk (nw σ q1 13 300) a0 = some (0, 0) ∧ post (si (sr (nw σ q1 13 300) a0 0 (some q1)) a0 1 (0 : Int32))
set_option maxHeartbeats 2000000 in
set_option maxRecDepth 100000 in
theorem m_X0_init (l : Launch) (G : GG) (N0 : Nat) (a0 : Nat) (σ : Hp) (post : Hp → Prop) (hP : P_X0_init a0 σ post) : MM l G N0 yX0_init cX0_init 1 none (1) (20) 1 300 [.ref a0] σ (pV post) := by
  refine MM.of (by decide) (Nat.le_of_ble_eq_true rfl) ?_
  intro p e s m args below meth c X hr hnm
  refine V.to (lv2 := [(0, .ref a0)]) [0] rfl rfl ?_
  unfold P_X0_init at hP
  refine V_aload_n X dX0_init_0 rfl 0 rfl ?_
  refine V_objInit X kl_RX0_3 ko_inst ko_code (Nat.le_of_ble_eq_true rfl) ⟨Nat.le_of_ble_eq_true rfl, Nat.le_of_ble_eq_true rfl⟩ dX0_init_1 ?_
  refine V_aload_n X dX0_init_4 rfl 0 rfl ?_
  refine V_sipush X (v := (300 : Int32)) dX0_init_5 (by decide) ?_
  refine V_newq X (N := 300) (t := 13) (Or.inr ⟨rfl, rfl⟩) kq_RX0_9 (by decide) (by decide) (by decide) (Nat.le_of_ble_eq_true rfl) (Nat.le_of_ble_eq_true rfl) dX0_init_8 (fun q1 h1 => ?_)
  have hP := hP q1 h1
  have h2 : gk (nw σ q1 13 300) q1 = _ := gk_new
  obtain ⟨h3, hP⟩ := hP
  refine V_putr X (v := (some q1)) kf_RX0_11 (fun _ => ⟨hnm, rfl⟩) rfl h3 (Or.inr ⟨_, rfl⟩) dX0_init_11 ?_
  refine V_aload_n X dX0_init_14 rfl 0 rfl ?_
  refine V_iconst X (v := (0 : Int32)) dX0_init_15 (by decide) ?_
  refine V_puti X kf_RX0_17 (fun h => by cases h) rfl h3 (Or.inl rfl) dX0_init_16 ?_
  exact V_vret X hr (Nat.le_of_ble_eq_true rfl) (Nat.le_of_ble_eq_true rfl) dX0_init_19 ⟨rfl, hP⟩
def P_X0_isFull (a0 : Nat) (σ : Hp) (post : Int32 → Hp → Prop) : Prop :=
  gk σ a0 = some (0, 0) ∧ ∃ b1 : Nat, (gr σ a0 0) = some b1 ∧ ∃ n2 : Nat, gk σ b1 = some (13, n2) ∧ ((gi σ a0 1) < (Int32.ofNat n2) → post (0 : Int32) σ) ∧ (¬ ((gi σ a0 1) < (Int32.ofNat n2)) → post (1 : Int32) σ)
set_option maxHeartbeats 2000000 in
set_option maxRecDepth 100000 in
theorem m_X0_isFull (l : Launch) (G : GG) (N0 : Nat) (a0 : Nat) (σ : Hp) (post : Int32 → Hp → Prop) (hP : P_X0_isFull a0 σ post) : MM l G N0 yX0_isFull cX0_isFull 1 (some .boolean) (0) (0) 0 0 [.ref a0] σ (pI post) := by
  refine MM.of (by decide) (Nat.le_of_ble_eq_true rfl) ?_
  intro p e s m args below meth c X hr hnm
  refine V.to (lv2 := [(0, .ref a0)]) [0] rfl rfl ?_
  unfold P_X0_isFull at hP
  refine V_aload_n X dX0_isFull_0 rfl 0 rfl ?_
  obtain ⟨h1, hP⟩ := hP
  refine V_geti X kf_RX0_17 rfl h1 dX0_isFull_1 ?_
  refine V_aload_n X dX0_isFull_4 rfl 0 rfl ?_
  refine V_getr X kf_RX0_11 rfl h1 dX0_isFull_5 ?_
  obtain ⟨b1, h2, hP⟩ := hP
  refine V_dr0 h2 ?_
  obtain ⟨n2, h3, hP⟩ := hP
  refine V_alen X (Or.inr (Or.inr (Or.inr rfl))) h3 dX0_isFull_8 ?_
  refine V_icmp_lt X (tgt := 16) dX0_isFull_9 (by decide) (fun h4 => ?_) (fun h4 => ?_)
  · have hP := hP.1 h4
    refine V_iconst X (v := (0 : Int32)) dX0_isFull_16 (by decide) ?_
    exact V_iret X hr (Or.inr ⟨rfl, Or.inl rfl⟩) (Nat.le_of_ble_eq_true rfl) (Nat.le_of_ble_eq_true rfl) dX0_isFull_17 ⟨_, rfl, hP⟩
  · have hP := hP.2 h4
    refine V_iconst X (v := (1 : Int32)) dX0_isFull_12 (by decide) ?_
    refine V_goto X (tgt := 17) dX0_isFull_13 (by decide) ?_
    exact V_iret X hr (Or.inr ⟨rfl, Or.inr rfl⟩) (Nat.le_of_ble_eq_true rfl) (Nat.le_of_ble_eq_true rfl) dX0_isFull_17 ⟨_, rfl, hP⟩
def P_X0_length (a0 : Nat) (σ : Hp) (post : Int32 → Hp → Prop) : Prop :=
  gk σ a0 = some (0, 0) ∧ post (gi σ a0 1) σ
set_option maxHeartbeats 2000000 in
set_option maxRecDepth 100000 in
theorem m_X0_length (l : Launch) (G : GG) (N0 : Nat) (a0 : Nat) (σ : Hp) (post : Int32 → Hp → Prop) (hP : P_X0_length a0 σ post) : MM l G N0 yX0_length cX0_length 1 (some .int) (0) (0) 0 0 [.ref a0] σ (pI post) := by
  refine MM.of (by decide) (Nat.le_of_ble_eq_true rfl) ?_
  intro p e s m args below meth c X hr hnm
  refine V.to (lv2 := [(0, .ref a0)]) [0] rfl rfl ?_
  unfold P_X0_length at hP
  refine V_aload_n X dX0_length_0 rfl 0 rfl ?_
  obtain ⟨h1, hP⟩ := hP
  refine V_geti X kf_RX0_17 rfl h1 dX0_length_1 ?_
  exact V_iret X hr (Or.inl rfl) (Nat.le_of_ble_eq_true rfl) (Nat.le_of_ble_eq_true rfl) dX0_length_4 ⟨_, rfl, hP⟩
def P_X5_put (a0 : Nat) (a1 : Nat) (σ : Hp) (post : Hp → Prop) : Prop :=
  gk σ a1 = some (4, 0) ∧ ((gi σ a1 0) < 0 → post σ) ∧ (¬ ((gi σ a1 0) < 0) → gk σ a0 = some (5, 0) ∧ ∃ b1 : Nat, (gr σ a0 0) = some b1 ∧ ∃ n2 : Nat, gk σ b1 = some (13, n2) ∧ ((gi σ a1 0) < (Int32.ofNat n2) → vp_in (gi σ a1 0) n2 ∧ post (si (sr σ b1 (Int32.toNatClampNeg (gi σ a1 0)) (some a1)) a0 1 (if (gi σ a0 1) < ((gi σ a1 0) + (1 : Int32)) then ((gi σ a1 0) + (1 : Int32)) else (gi σ a0 1)))) ∧ (¬ ((gi σ a1 0) < (Int32.ofNat n2)) → post σ))
set_option maxHeartbeats 2000000 in
set_option maxRecDepth 100000 in
theorem m_X5_put (l : Launch) (G : GG) (N0 : Nat) (a0 : Nat) (a1 : Nat) (σ : Hp) (post : Hp → Prop) (hP : P_X5_put a0 a1 σ post) : MM l G N0 yX5_put cX5_put 3 none (1) (25) 0 0 [.ref a0, .ref a1] σ (pV post) := by
  refine MM.of (by decide) (Nat.le_of_ble_eq_true rfl) ?_
  intro p e s m args below meth c X hr hnm
  refine V.to (lv2 := [(0, .ref a0), (1, .ref a1)]) [0, 1] rfl rfl ?_
  unfold P_X5_put at hP
  refine V_aload_n X dX5_put_0 rfl 1 rfl ?_
  obtain ⟨h1, hP⟩ := hP
  refine V_geti X kf_RX5_32 rfl h1 dX5_put_1 ?_
  refine V_istore_n X (lv' := [(2, .int (gi σ a1 0)), (0, .ref a0), (1, .ref a1)]) dX5_put_4 rfl (by decide) rfl ?_
  refine V_iload_n X dX5_put_5 rfl 0 rfl ?_
  refine V_if_lt X (tgt := 18) dX5_put_6 (by decide) (fun h2 => ?_) (fun h2 => ?_)
  · have hP := hP.1 h2
    exact V_vret X hr (Nat.le_of_ble_eq_true rfl) (Nat.le_of_ble_eq_true rfl) dX5_put_18 ⟨rfl, hP⟩
  · have hP := hP.2 h2
    refine V_iload_n X dX5_put_9 rfl 0 rfl ?_
    refine V_aload_n X dX5_put_10 rfl 1 rfl ?_
    obtain ⟨h3, hP⟩ := hP
    refine V_getr X kf_RX5_11 rfl h3 dX5_put_11 ?_
    obtain ⟨b1, h4, hP⟩ := hP
    refine V_dr0 h4 ?_
    obtain ⟨n2, h5, hP⟩ := hP
    refine V_alen X (Or.inr (Or.inr (Or.inr rfl))) h5 dX5_put_14 ?_
    refine V_icmp_lt X (tgt := 19) dX5_put_15 (by decide) (fun h6 => ?_) (fun h6 => ?_)
    · have hP := hP.1 h6
      refine V_aload_n X dX5_put_19 rfl 1 rfl ?_
      refine V_getr X kf_RX5_11 rfl h3 dX5_put_20 ?_
      refine V_iload_n X dX5_put_23 rfl 0 rfl ?_
      refine V_aload_n X dX5_put_24 rfl 2 rfl ?_
      refine V_dr2 h4 ?_
      obtain ⟨h7, hP⟩ := hP
      refine V_aast X (x := (some a1)) (Or.inr ⟨rfl, rfl⟩) h5 h7 (fun v h => ⟨_, by cases h; exact h1⟩) dX5_put_25 ?_
      refine V_aload_n X dX5_put_26 rfl 1 rfl ?_
      refine V_aload_n X dX5_put_27 rfl 1 rfl ?_
      refine V_geti X kf_RX5_17 rfl h3 dX5_put_28 ?_
      rw [show gi (sr σ b1 (Int32.toNatClampNeg (gi σ a1 0)) (some a1)) a0 1 = (gi σ a0 1) from rfl]
      refine V_iload_n X dX5_put_31 rfl 0 rfl ?_
      refine V_iconst X (v := (1 : Int32)) dX5_put_32 (by decide) ?_
      refine V_iadd X dX5_put_33 ?_
      refine V_mmax X kl_RX5_35 km_max_s km_ini km_max_c (Nat.le_of_ble_eq_true rfl) ⟨Nat.le_of_ble_eq_true rfl, Nat.le_of_ble_eq_true rfl⟩ ⟨Nat.le_of_ble_eq_true rfl, Nat.le_of_ble_eq_true rfl⟩ dX5_put_34 ?_
      refine V_puti X kf_RX5_17 (fun h => by cases h) rfl h3 (Or.inl rfl) dX5_put_37 ?_
      exact V_vret X hr (Nat.le_of_ble_eq_true rfl) (Nat.le_of_ble_eq_true rfl) dX5_put_40 ⟨rfl, hP⟩
    · have hP := hP.2 h6
      exact V_vret X hr (Nat.le_of_ble_eq_true rfl) (Nat.le_of_ble_eq_true rfl) dX5_put_18 ⟨rfl, hP⟩
def F_X0_replay_2 (a0 : Nat) (x1 : Int32) (a2 : Nat) (post : Hp → Prop) (I2 : Int32 → Hp → Prop) (v3 : Int32) (σ2 : Hp) : Prop :=
  (x1 ≤ v3 → post σ2) ∧ (¬ (x1 ≤ v3) → gk σ2 a0 = some (0, 0) ∧ ∃ b201 : Nat, (gr σ2 a0 0) = some b201 ∧ ∃ n202 : Nat, gk σ2 b201 = some (13, n202) ∧ ((Int32.ofNat n202) ≤ v3 → post σ2) ∧ (¬ ((Int32.ofNat n202) ≤ v3) → vp_in v3 n202 ∧ ((gr σ2 b201 (Int32.toNatClampNeg v3)) = none → I2 (v3 + (1 : Int32)) σ2) ∧ (∀ b203 : Nat, (gr σ2 b201 (Int32.toNatClampNeg v3)) = some b203 → gk σ2 a2 = some (5, 0) ∧ P_X5_put a2 b203 σ2 (fun (σ204 : Hp) => I2 (v3 + (1 : Int32)) σ204))))
def P_X0_replay (a0 : Nat) (x1 : Int32) (a2 : Nat) (σ : Hp) (post : Hp → Prop) : Prop :=
  lfp1 (F_X0_replay_2 a0 x1 a2 post) (0 : Int32) σ
set_option maxHeartbeats 2000000 in
set_option maxRecDepth 100000 in
theorem m_X0_replay (l : Launch) (G : GG) (N0 : Nat) (a0 : Nat) (x1 : Int32) (a2 : Nat) (σ : Hp) (post : Hp → Prop) (hP : P_X0_replay a0 x1 a2 σ post) : MM l G N0 yX0_replay cX0_replay 5 none (2) (47) 0 0 [.ref a0, .int x1, .ref a2] σ (pV post) := by
  refine MM.of (by decide) (Nat.le_of_ble_eq_true rfl) ?_
  intro p e s m args below meth c X hr hnm
  refine V.to (lv2 := [(0, .ref a0), (1, .int x1), (2, .ref a2)]) [0, 1, 2] rfl rfl ?_
  unfold P_X0_replay at hP
  refine V_iconst X (v := (0 : Int32)) dX0_replay_0 (by decide) ?_
  refine V_istore_n X (lv' := [(3, .int (0 : Int32)), (0, .ref a0), (1, .int x1), (2, .ref a2)]) dX0_replay_1 rfl (by decide) rfl ?_
  refine V.to (lv2 := [(0, .ref a0), (1, .int x1), (2, .ref a2), (3, .int (0 : Int32))]) [1, 2, 3, 0] rfl rfl ?_
  refine lfp1_use (fun v3 σ2 => V p l e { frames := 2, cells := 0, slots := 0, locals := 47 } s m args below meth c (MQ below (QC G N0 (pV post)) args s 0 0 (AN N0)) G N0 5 σ2 0 0 2 [(0, .ref a0), (1, .int x1), (2, .ref a2), (3, .int v3)] []) hP ?_
  intro v3 σ2 hP
  unfold F_X0_replay_2 at hP
  refine V_iload_n X dX0_replay_2 rfl 3 rfl ?_
  refine V_iload_n X dX0_replay_3 rfl 1 rfl ?_
  refine V_icmp_ge X (tgt := 41) dX0_replay_4 (by decide) (fun h2001 => ?_) (fun h2001 => ?_)
  · have hP := hP.1 h2001
    exact V_vret X hr (Nat.le_of_ble_eq_true rfl) (Nat.le_of_ble_eq_true rfl) dX0_replay_41 ⟨rfl, hP⟩
  · have hP := hP.2 h2001
    refine V_iload_n X dX0_replay_7 rfl 3 rfl ?_
    refine V_aload_n X dX0_replay_8 rfl 0 rfl ?_
    obtain ⟨h2002, hP⟩ := hP
    refine V_getr X kf_RX0_11 rfl h2002 dX0_replay_9 ?_
    obtain ⟨b201, h2003, hP⟩ := hP
    refine V_dr0 h2003 ?_
    obtain ⟨n202, h2004, hP⟩ := hP
    refine V_alen X (Or.inr (Or.inr (Or.inr rfl))) h2004 dX0_replay_12 ?_
    refine V_icmp_ge X (tgt := 41) dX0_replay_13 (by decide) (fun h2005 => ?_) (fun h2005 => ?_)
    · have hP := hP.1 h2005
      exact V_vret X hr (Nat.le_of_ble_eq_true rfl) (Nat.le_of_ble_eq_true rfl) dX0_replay_41 ⟨rfl, hP⟩
    · have hP := hP.2 h2005
      refine V_aload_n X dX0_replay_16 rfl 0 rfl ?_
      refine V_getr X kf_RX0_11 rfl h2002 dX0_replay_17 ?_
      refine V_iload_n X dX0_replay_20 rfl 3 rfl ?_
      refine V_dr1 h2003 ?_
      obtain ⟨h2006, hP⟩ := hP
      refine V_aald X (Or.inr rfl) h2004 h2006 dX0_replay_21 ?_
      refine V_astorer X (x := (gr σ2 b201 (Int32.toNatClampNeg v3))) (lv' := [(4, va_rf (gr σ2 b201 (Int32.toNatClampNeg v3))), (0, .ref a0), (1, .int x1), (2, .ref a2), (3, .int v3)]) dX0_replay_22 (by decide) rfl ?_
      refine V_aloadr X dX0_replay_24 0 rfl ?_
      refine V_ifnull X (tgt := 35) dX0_replay_26 (by decide) (fun h2007 => ?_) (fun b203 h2007 => ?_)
      · have hP := hP.1 h2007
        refine V_iinc X (v := (v3 + (1 : Int32))) (lv' := [(3, .int (v3 + (1 : Int32))), (4, va_rf (gr σ2 b201 (Int32.toNatClampNeg v3))), (0, .ref a0), (1, .int x1), (2, .ref a2)]) dX0_replay_35 4 rfl rfl (by decide) rfl ?_
        refine V_goto X (tgt := 2) dX0_replay_38 (by decide) ?_
        exact V.to [2, 3, 4, 0] rfl rfl hP
      · have hP := hP.2 b203 h2007
        refine V_aload_n X dX0_replay_29 rfl 3 rfl ?_
        refine V_aloadr X dX0_replay_30 0 rfl ?_
        refine V_dr0 h2007 ?_
        obtain ⟨h2008, hP⟩ := hP
        refine V_callV_v X [.ref b203] kw_RX0_21 ki_X5_put ks_X5_put ksg_X5_put (m_X5_put l G N0 _ _ _ _ hP) h2008 (by decide) rfl rfl ⟨Nat.le_of_ble_eq_true rfl, Nat.le_of_ble_eq_true rfl⟩ (Nat.le_of_ble_eq_true rfl) ⟨Nat.le_of_ble_eq_true rfl, Nat.le_of_ble_eq_true rfl⟩ rfl dX0_replay_32 (fun σ204 hP => ?_)
        refine V_iinc X (v := (v3 + (1 : Int32))) (lv' := [(3, .int (v3 + (1 : Int32))), (4, va_rf (gr σ2 b201 (Int32.toNatClampNeg v3))), (0, .ref a0), (1, .int x1), (2, .ref a2)]) dX0_replay_35 4 rfl rfl (by decide) rfl ?_
        refine V_goto X (tgt := 2) dX0_replay_38 (by decide) ?_
        exact V.to [2, 3, 4, 0] rfl rfl hP
def P_X1_add (a0 : Nat) (x1 : Int32) (σ : Hp) (post : Hp → Prop) : Prop :=
  gk σ a0 = some (1, 0) ∧ ((gi σ a0 1) < 0 → post σ) ∧ (¬ ((gi σ a0 1) < 0) → ∃ b1 : Nat, (gr σ a0 0) = some b1 ∧ ∃ n2 : Nat, gk σ b1 = some (10, n2) ∧ ((gi σ a0 1) < (Int32.ofNat n2) → vp_in (gi σ a0 1) n2 ∧ post (si (si σ b1 (Int32.toNatClampNeg (gi σ a0 1)) x1) a0 1 ((gi σ a0 1) + (1 : Int32)))) ∧ (¬ ((gi σ a0 1) < (Int32.ofNat n2)) → post σ))
set_option maxHeartbeats 2000000 in
set_option maxRecDepth 100000 in
theorem m_X1_add (l : Launch) (G : GG) (N0 : Nat) (a0 : Nat) (x1 : Int32) (σ : Hp) (post : Hp → Prop) (hP : P_X1_add a0 x1 σ post) : MM l G N0 yX1_add cX1_add 2 none (0) (0) 0 0 [.ref a0, .int x1] σ (pV post) := by
  refine MM.of (by decide) (Nat.le_of_ble_eq_true rfl) ?_
  intro p e s m args below meth c X hr hnm
  refine V.to (lv2 := [(0, .ref a0), (1, .int x1)]) [0, 1] rfl rfl ?_
  unfold P_X1_add at hP
  refine V_aload_n X dX1_add_0 rfl 0 rfl ?_
  obtain ⟨h1, hP⟩ := hP
  refine V_geti X kf_RX1_15 rfl h1 dX1_add_1 ?_
  refine V_if_lt X (tgt := 19) dX1_add_4 (by decide) (fun h2 => ?_) (fun h2 => ?_)
  · have hP := hP.1 h2
    exact V_vret X hr (Nat.le_of_ble_eq_true rfl) (Nat.le_of_ble_eq_true rfl) dX1_add_19 ⟨rfl, hP⟩
  · have hP := hP.2 h2
    refine V_aload_n X dX1_add_7 rfl 0 rfl ?_
    refine V_geti X kf_RX1_15 rfl h1 dX1_add_8 ?_
    refine V_aload_n X dX1_add_11 rfl 0 rfl ?_
    refine V_getr X kf_RX1_9 rfl h1 dX1_add_12 ?_
    obtain ⟨b1, h3, hP⟩ := hP
    refine V_dr0 h3 ?_
    obtain ⟨n2, h4, hP⟩ := hP
    refine V_alen X (Or.inl rfl) h4 dX1_add_15 ?_
    refine V_icmp_lt X (tgt := 20) dX1_add_16 (by decide) (fun h5 => ?_) (fun h5 => ?_)
    · have hP := hP.1 h5
      refine V_aload_n X dX1_add_20 rfl 0 rfl ?_
      refine V_getr X kf_RX1_9 rfl h1 dX1_add_21 ?_
      refine V_aload_n X dX1_add_24 rfl 0 rfl ?_
      refine V_geti X kf_RX1_15 rfl h1 dX1_add_25 ?_
      refine V_iload_n X dX1_add_28 rfl 1 rfl ?_
      refine V_dr2 h3 ?_
      obtain ⟨h6, hP⟩ := hP
      refine V_iast X h4 h6 dX1_add_29 ?_
      refine V_aload_n X dX1_add_30 rfl 0 rfl ?_
      refine V_dup X dX1_add_31 rfl ?_
      refine V_geti X kf_RX1_15 rfl h1 dX1_add_32 ?_
      rw [show gi (si σ b1 (Int32.toNatClampNeg (gi σ a0 1)) x1) a0 1 = (gi σ a0 1) from ((gi_sa (ne_kd h1 h4 (by decide))).trans rfl)]
      refine V_iconst X (v := (1 : Int32)) dX1_add_35 (by decide) ?_
      refine V_iadd X dX1_add_36 ?_
      refine V_puti X kf_RX1_15 (fun h => by cases h) rfl h1 (Or.inl rfl) dX1_add_37 ?_
      exact V_vret X hr (Nat.le_of_ble_eq_true rfl) (Nat.le_of_ble_eq_true rfl) dX1_add_40 ⟨rfl, hP⟩
    · have hP := hP.2 h5
      exact V_vret X hr (Nat.le_of_ble_eq_true rfl) (Nat.le_of_ble_eq_true rfl) dX1_add_19 ⟨rfl, hP⟩
def P_X4_referenceBy (a0 : Nat) (x1 : Int32) (σ : Hp) (post : Int32 → Hp → Prop) : Prop :=
  (¬ x1 = 0 → gk σ a0 = some (4, 0) ∧ post (gi σ a0 4) σ) ∧ (x1 = 0 → gk σ a0 = some (4, 0) ∧ post (gi σ a0 3) σ)
set_option maxHeartbeats 2000000 in
set_option maxRecDepth 100000 in
theorem m_X4_referenceBy (l : Launch) (G : GG) (N0 : Nat) (a0 : Nat) (x1 : Int32) (σ : Hp) (post : Int32 → Hp → Prop) (hP : P_X4_referenceBy a0 x1 σ post) : MM l G N0 yX4_referenceBy cX4_referenceBy 2 (some .int) (0) (0) 0 0 [.ref a0, .int x1] σ (pI post) := by
  refine MM.of (by decide) (Nat.le_of_ble_eq_true rfl) ?_
  intro p e s m args below meth c X hr hnm
  refine V.to (lv2 := [(0, .ref a0), (1, .int x1)]) [0, 1] rfl rfl ?_
  unfold P_X4_referenceBy at hP
  refine V_iload_n X dX4_referenceBy_0 rfl 1 rfl ?_
  refine V_if_ne X (tgt := 11) dX4_referenceBy_1 (by decide) (fun h1 => ?_) (fun h1 => ?_)
  · have hP := hP.1 h1
    refine V_aload_n X dX4_referenceBy_11 rfl 0 rfl ?_
    obtain ⟨h2, hP⟩ := hP
    refine V_geti X kf_RX4_22 rfl h2 dX4_referenceBy_12 ?_
    exact V_iret X hr (Or.inl rfl) (Nat.le_of_ble_eq_true rfl) (Nat.le_of_ble_eq_true rfl) dX4_referenceBy_15 ⟨_, rfl, hP⟩
  · have hP := hP.2 h1
    refine V_aload_n X dX4_referenceBy_4 rfl 0 rfl ?_
    obtain ⟨h3, hP⟩ := hP
    refine V_geti X kf_RX4_19 rfl h3 dX4_referenceBy_5 ?_
    refine V_goto X (tgt := 15) dX4_referenceBy_8 (by decide) ?_
    exact V_iret X hr (Or.inl rfl) (Nat.le_of_ble_eq_true rfl) (Nat.le_of_ble_eq_true rfl) dX4_referenceBy_15 ⟨_, rfl, hP⟩
def P_X5_at (a0 : Nat) (x1 : Int32) (σ : Hp) (post : Option Nat → Hp → Prop) : Prop :=
  (x1 < 0 → post none σ) ∧ (¬ (x1 < 0) → gk σ a0 = some (5, 0) ∧ ∃ b1 : Nat, (gr σ a0 0) = some b1 ∧ ∃ n2 : Nat, gk σ b1 = some (13, n2) ∧ ((Int32.ofNat n2) ≤ x1 → post none σ) ∧ (¬ ((Int32.ofNat n2) ≤ x1) → vp_in x1 n2 ∧ post (gr σ b1 (Int32.toNatClampNeg x1)) σ))
set_option maxHeartbeats 2000000 in
set_option maxRecDepth 100000 in
theorem m_X5_at (l : Launch) (G : GG) (N0 : Nat) (a0 : Nat) (x1 : Int32) (σ : Hp) (post : Option Nat → Hp → Prop) (hP : P_X5_at a0 x1 σ post) : MM l G N0 yX5_at cX5_at 2 (some (.object "PaperRows$Row")) (0) (0) 0 0 [.ref a0, .int x1] σ (pR post) := by
  refine MM.of (by decide) (Nat.le_of_ble_eq_true rfl) ?_
  intro p e s m args below meth c X hr hnm
  refine V.to (lv2 := [(0, .ref a0), (1, .int x1)]) [0, 1] rfl rfl ?_
  unfold P_X5_at at hP
  refine V_iload_n X dX5_at_0 rfl 1 rfl ?_
  refine V_if_lt X (tgt := 22) dX5_at_1 (by decide) (fun h1 => ?_) (fun h1 => ?_)
  · have hP := hP.1 h1
    refine V_null X dX5_at_22 ?_
    exact V_aret X (v := none) hr (Or.inl ⟨_, rfl⟩) (Nat.le_of_ble_eq_true rfl) (Nat.le_of_ble_eq_true rfl) dX5_at_23 ⟨_, rfl, hP⟩
  · have hP := hP.2 h1
    refine V_iload_n X dX5_at_4 rfl 1 rfl ?_
    refine V_aload_n X dX5_at_5 rfl 0 rfl ?_
    obtain ⟨h2, hP⟩ := hP
    refine V_getr X kf_RX5_11 rfl h2 dX5_at_6 ?_
    obtain ⟨b1, h3, hP⟩ := hP
    refine V_dr0 h3 ?_
    obtain ⟨n2, h4, hP⟩ := hP
    refine V_alen X (Or.inr (Or.inr (Or.inr rfl))) h4 dX5_at_9 ?_
    refine V_icmp_ge X (tgt := 22) dX5_at_10 (by decide) (fun h5 => ?_) (fun h5 => ?_)
    · have hP := hP.1 h5
      refine V_null X dX5_at_22 ?_
      exact V_aret X (v := none) hr (Or.inl ⟨_, rfl⟩) (Nat.le_of_ble_eq_true rfl) (Nat.le_of_ble_eq_true rfl) dX5_at_23 ⟨_, rfl, hP⟩
    · have hP := hP.2 h5
      refine V_aload_n X dX5_at_13 rfl 0 rfl ?_
      refine V_getr X kf_RX5_11 rfl h2 dX5_at_14 ?_
      refine V_iload_n X dX5_at_17 rfl 1 rfl ?_
      refine V_dr1 h3 ?_
      obtain ⟨h6, hP⟩ := hP
      refine V_aald X (Or.inr rfl) h4 h6 dX5_at_18 ?_
      refine V_goto X (tgt := 23) dX5_at_19 (by decide) ?_
      exact V_aret X (v := (gr σ b1 (Int32.toNatClampNeg x1))) hr (Or.inl ⟨_, rfl⟩) (Nat.le_of_ble_eq_true rfl) (Nat.le_of_ble_eq_true rfl) dX5_at_23 ⟨_, rfl, hP⟩
def P_X5_standing (a0 : Nat) (x1 : Int32) (σ : Hp) (post : Option Nat → Hp → Prop) : Prop :=
  gk σ a0 = some (5, 0) ∧ P_X5_at a0 x1 σ (fun (r1 : Option Nat) (σ1 : Hp) => (r1 = none → post none σ1) ∧ (∀ b2 : Nat, r1 = some b2 → gk σ1 b2 = some (4, 0) ∧ ((gi σ1 b2 5) = 0 → post none σ1) ∧ (¬ ((gi σ1 b2 5) = 0) → post r1 σ1)))
set_option maxHeartbeats 2000000 in
set_option maxRecDepth 100000 in
theorem m_X5_standing (l : Launch) (G : GG) (N0 : Nat) (a0 : Nat) (x1 : Int32) (σ : Hp) (post : Option Nat → Hp → Prop) (hP : P_X5_standing a0 x1 σ post) : MM l G N0 yX5_standing cX5_standing 3 (some (.object "PaperRows$Row")) (1) (21) 0 0 [.ref a0, .int x1] σ (pR post) := by
  refine MM.of (by decide) (Nat.le_of_ble_eq_true rfl) ?_
  intro p e s m args below meth c X hr hnm
  refine V.to (lv2 := [(0, .ref a0), (1, .int x1)]) [0, 1] rfl rfl ?_
  unfold P_X5_standing at hP
  refine V_aload_n X dX5_standing_0 rfl 0 rfl ?_
  refine V_iload_n X dX5_standing_1 rfl 1 rfl ?_
  obtain ⟨h1, hP⟩ := hP
  refine V_callV_r X [.int x1] kw_RX5_21 ki_X5_at ks_X5_at ksg_X5_at (m_X5_at l G N0 _ _ _ _ hP) h1 (by decide) rfl rfl ⟨Nat.le_of_ble_eq_true rfl, Nat.le_of_ble_eq_true rfl⟩ (Nat.le_of_ble_eq_true rfl) ⟨Nat.le_of_ble_eq_true rfl, Nat.le_of_ble_eq_true rfl⟩ rfl dX5_standing_2 (fun r1 σ1 hP => ?_)
  refine V_astore_nr X (x := r1) (lv' := [(2, va_rf r1), (0, .ref a0), (1, .int x1)]) dX5_standing_5 rfl (by decide) rfl ?_
  refine V_aload_nr X dX5_standing_6 rfl 0 rfl ?_
  refine V_ifnull X (tgt := 21) dX5_standing_7 (by decide) (fun h2 => ?_) (fun b2 h2 => ?_)
  · have hP := hP.1 h2
    refine V_null X dX5_standing_21 ?_
    exact V_aret X (v := none) hr (Or.inl ⟨_, rfl⟩) (Nat.le_of_ble_eq_true rfl) (Nat.le_of_ble_eq_true rfl) dX5_standing_22 ⟨_, rfl, hP⟩
  · have hP := hP.2 b2 h2
    refine V_aload_nr X dX5_standing_10 rfl 0 rfl ?_
    refine V_dr0 h2 ?_
    obtain ⟨h3, hP⟩ := hP
    refine V_geti X kf_RX5_25 rfl h3 dX5_standing_11 ?_
    refine V_if_eq X (tgt := 21) dX5_standing_14 (by decide) (fun h4 => ?_) (fun h4 => ?_)
    · have hP := hP.1 h4
      refine V_null X dX5_standing_21 ?_
      exact V_aret X (v := none) hr (Or.inl ⟨_, rfl⟩) (Nat.le_of_ble_eq_true rfl) (Nat.le_of_ble_eq_true rfl) dX5_standing_22 ⟨_, rfl, hP⟩
    · have hP := hP.2 h4
      refine V_aload_nr X dX5_standing_17 rfl 0 rfl ?_
      refine V_goto X (tgt := 22) dX5_standing_18 (by decide) ?_
      exact V_aret X (v := r1) hr (Or.inl ⟨_, rfl⟩) (Nat.le_of_ble_eq_true rfl) (Nat.le_of_ble_eq_true rfl) dX5_standing_22 ⟨_, rfl, hP⟩
def P_X6_isItem (a0 : Nat) (x1 : Int32) (σ : Hp) (post : Int32 → Hp → Prop) : Prop :=
  (x1 < 0 → post (0 : Int32) σ) ∧ (¬ (x1 < 0) → gk σ a0 = some (6, 0) ∧ ((gi σ a0 6) ≤ x1 → post (0 : Int32) σ) ∧ (¬ ((gi σ a0 6) ≤ x1) → ((100 : Int32) ≤ x1 → post (0 : Int32) σ) ∧ (¬ ((100 : Int32) ≤ x1) → post (1 : Int32) σ)))
set_option maxHeartbeats 2000000 in
set_option maxRecDepth 100000 in
theorem m_X6_isItem (l : Launch) (G : GG) (N0 : Nat) (a0 : Nat) (x1 : Int32) (σ : Hp) (post : Int32 → Hp → Prop) (hP : P_X6_isItem a0 x1 σ post) : MM l G N0 yX6_isItem cX6_isItem 2 (some .boolean) (0) (0) 0 0 [.ref a0, .int x1] σ (pI post) := by
  refine MM.of (by decide) (Nat.le_of_ble_eq_true rfl) ?_
  intro p e s m args below meth c X hr hnm
  refine V.to (lv2 := [(0, .ref a0), (1, .int x1)]) [0, 1] rfl rfl ?_
  unfold P_X6_isItem at hP
  refine V_iload_n X dX6_isItem_0 rfl 1 rfl ?_
  refine V_if_lt X (tgt := 22) dX6_isItem_1 (by decide) (fun h1 => ?_) (fun h1 => ?_)
  · have hP := hP.1 h1
    refine V_iconst X (v := (0 : Int32)) dX6_isItem_22 (by decide) ?_
    exact V_iret X hr (Or.inr ⟨rfl, Or.inl rfl⟩) (Nat.le_of_ble_eq_true rfl) (Nat.le_of_ble_eq_true rfl) dX6_isItem_23 ⟨_, rfl, hP⟩
  · have hP := hP.2 h1
    refine V_iload_n X dX6_isItem_4 rfl 1 rfl ?_
    refine V_aload_n X dX6_isItem_5 rfl 0 rfl ?_
    obtain ⟨h2, hP⟩ := hP
    refine V_geti X kf_RX6_31 rfl h2 dX6_isItem_6 ?_
    refine V_icmp_ge X (tgt := 22) dX6_isItem_9 (by decide) (fun h3 => ?_) (fun h3 => ?_)
    · have hP := hP.1 h3
      refine V_iconst X (v := (0 : Int32)) dX6_isItem_22 (by decide) ?_
      exact V_iret X hr (Or.inr ⟨rfl, Or.inl rfl⟩) (Nat.le_of_ble_eq_true rfl) (Nat.le_of_ble_eq_true rfl) dX6_isItem_23 ⟨_, rfl, hP⟩
    · have hP := hP.2 h3
      refine V_iload_n X dX6_isItem_12 rfl 1 rfl ?_
      refine V_bipush X (v := (100 : Int32)) dX6_isItem_13 (by decide) ?_
      refine V_icmp_ge X (tgt := 22) dX6_isItem_15 (by decide) (fun h4 => ?_) (fun h4 => ?_)
      · have hP := hP.1 h4
        refine V_iconst X (v := (0 : Int32)) dX6_isItem_22 (by decide) ?_
        exact V_iret X hr (Or.inr ⟨rfl, Or.inl rfl⟩) (Nat.le_of_ble_eq_true rfl) (Nat.le_of_ble_eq_true rfl) dX6_isItem_23 ⟨_, rfl, hP⟩
      · have hP := hP.2 h4
        refine V_iconst X (v := (1 : Int32)) dX6_isItem_18 (by decide) ?_
        refine V_goto X (tgt := 23) dX6_isItem_19 (by decide) ?_
        exact V_iret X hr (Or.inr ⟨rfl, Or.inr rfl⟩) (Nat.le_of_ble_eq_true rfl) (Nat.le_of_ble_eq_true rfl) dX6_isItem_23 ⟨_, rfl, hP⟩
def P_X6_partWithin (a0 : Nat) (x1 : Int32) (σ : Hp) (post : Int32 → Hp → Prop) : Prop :=
  gk σ a0 = some (6, 0) ∧ P_X6_isItem a0 x1 σ (fun (r1 : Int32) (σ1 : Hp) => (r1 = 0 → post (-1 : Int32) σ1) ∧ (¬ (r1 = 0) → gk σ1 a0 = some (6, 0) ∧ ∃ b2 : Nat, (gr σ1 a0 4) = some b2 ∧ ∃ n3 : Nat, gk σ1 b2 = some (10, n3) ∧ vp_in x1 n3 ∧ post (gi σ1 b2 (Int32.toNatClampNeg x1)) σ1))
set_option maxHeartbeats 2000000 in
set_option maxRecDepth 100000 in
theorem m_X6_partWithin (l : Launch) (G : GG) (N0 : Nat) (a0 : Nat) (x1 : Int32) (σ : Hp) (post : Int32 → Hp → Prop) (hP : P_X6_partWithin a0 x1 σ post) : MM l G N0 yX6_partWithin cX6_partWithin 2 (some .int) (1) (21) 0 0 [.ref a0, .int x1] σ (pI post) := by
  refine MM.of (by decide) (Nat.le_of_ble_eq_true rfl) ?_
  intro p e s m args below meth c X hr hnm
  refine V.to (lv2 := [(0, .ref a0), (1, .int x1)]) [0, 1] rfl rfl ?_
  unfold P_X6_partWithin at hP
  refine V_aload_n X dX6_partWithin_0 rfl 0 rfl ?_
  refine V_iload_n X dX6_partWithin_1 rfl 1 rfl ?_
  obtain ⟨h1, hP⟩ := hP
  refine V_callV_i X [.int x1] kw_RX6_34 ki_X6_isItem ks_X6_isItem ksg_X6_isItem (m_X6_isItem l G N0 _ _ _ _ hP) h1 (by decide) rfl rfl ⟨Nat.le_of_ble_eq_true rfl, Nat.le_of_ble_eq_true rfl⟩ (Nat.le_of_ble_eq_true rfl) ⟨Nat.le_of_ble_eq_true rfl, Nat.le_of_ble_eq_true rfl⟩ rfl dX6_partWithin_2 (fun r1 σ1 hP => ?_)
  refine V_if_eq X (tgt := 17) dX6_partWithin_5 (by decide) (fun h2 => ?_) (fun h2 => ?_)
  · have hP := hP.1 h2
    refine V_iconst X (v := (-1 : Int32)) dX6_partWithin_17 (by decide) ?_
    exact V_iret X hr (Or.inl rfl) (Nat.le_of_ble_eq_true rfl) (Nat.le_of_ble_eq_true rfl) dX6_partWithin_18 ⟨_, rfl, hP⟩
  · have hP := hP.2 h2
    refine V_aload_n X dX6_partWithin_8 rfl 0 rfl ?_
    obtain ⟨h3, hP⟩ := hP
    refine V_getr X kf_RX6_24 rfl h3 dX6_partWithin_9 ?_
    refine V_iload_n X dX6_partWithin_12 rfl 1 rfl ?_
    obtain ⟨b2, h4, hP⟩ := hP
    refine V_dr1 h4 ?_
    obtain ⟨n3, h5, hP⟩ := hP
    obtain ⟨h6, hP⟩ := hP
    refine V_iald X h5 h6 dX6_partWithin_13 ?_
    refine V_goto X (tgt := 18) dX6_partWithin_14 (by decide) ?_
    exact V_iret X hr (Or.inl rfl) (Nat.le_of_ble_eq_true rfl) (Nat.le_of_ble_eq_true rfl) dX6_partWithin_18 ⟨_, rfl, hP⟩
def P_X6_referenceOf (a0 : Nat) (x1 : Int32) (σ : Hp) (post : Int32 → Hp → Prop) : Prop :=
  gk σ a0 = some (6, 0) ∧ P_X6_isItem a0 x1 σ (fun (r1 : Int32) (σ1 : Hp) => (r1 = 0 → post (-1 : Int32) σ1) ∧ (¬ (r1 = 0) → gk σ1 a0 = some (6, 0) ∧ ∃ b2 : Nat, (gr σ1 a0 3) = some b2 ∧ ∃ n3 : Nat, gk σ1 b2 = some (10, n3) ∧ vp_in x1 n3 ∧ post (gi σ1 b2 (Int32.toNatClampNeg x1)) σ1))
set_option maxHeartbeats 2000000 in
set_option maxRecDepth 100000 in
theorem m_X6_referenceOf (l : Launch) (G : GG) (N0 : Nat) (a0 : Nat) (x1 : Int32) (σ : Hp) (post : Int32 → Hp → Prop) (hP : P_X6_referenceOf a0 x1 σ post) : MM l G N0 yX6_referenceOf cX6_referenceOf 2 (some .int) (1) (21) 0 0 [.ref a0, .int x1] σ (pI post) := by
  refine MM.of (by decide) (Nat.le_of_ble_eq_true rfl) ?_
  intro p e s m args below meth c X hr hnm
  refine V.to (lv2 := [(0, .ref a0), (1, .int x1)]) [0, 1] rfl rfl ?_
  unfold P_X6_referenceOf at hP
  refine V_aload_n X dX6_referenceOf_0 rfl 0 rfl ?_
  refine V_iload_n X dX6_referenceOf_1 rfl 1 rfl ?_
  obtain ⟨h1, hP⟩ := hP
  refine V_callV_i X [.int x1] kw_RX6_34 ki_X6_isItem ks_X6_isItem ksg_X6_isItem (m_X6_isItem l G N0 _ _ _ _ hP) h1 (by decide) rfl rfl ⟨Nat.le_of_ble_eq_true rfl, Nat.le_of_ble_eq_true rfl⟩ (Nat.le_of_ble_eq_true rfl) ⟨Nat.le_of_ble_eq_true rfl, Nat.le_of_ble_eq_true rfl⟩ rfl dX6_referenceOf_2 (fun r1 σ1 hP => ?_)
  refine V_if_eq X (tgt := 17) dX6_referenceOf_5 (by decide) (fun h2 => ?_) (fun h2 => ?_)
  · have hP := hP.1 h2
    refine V_iconst X (v := (-1 : Int32)) dX6_referenceOf_17 (by decide) ?_
    exact V_iret X hr (Or.inl rfl) (Nat.le_of_ble_eq_true rfl) (Nat.le_of_ble_eq_true rfl) dX6_referenceOf_18 ⟨_, rfl, hP⟩
  · have hP := hP.2 h2
    refine V_aload_n X dX6_referenceOf_8 rfl 0 rfl ?_
    obtain ⟨h3, hP⟩ := hP
    refine V_getr X kf_RX6_21 rfl h3 dX6_referenceOf_9 ?_
    refine V_iload_n X dX6_referenceOf_12 rfl 1 rfl ?_
    obtain ⟨b2, h4, hP⟩ := hP
    refine V_dr1 h4 ?_
    obtain ⟨n3, h5, hP⟩ := hP
    obtain ⟨h6, hP⟩ := hP
    refine V_iald X h5 h6 dX6_referenceOf_13 ?_
    refine V_goto X (tgt := 18) dX6_referenceOf_14 (by decide) ?_
    exact V_iret X hr (Or.inl rfl) (Nat.le_of_ble_eq_true rfl) (Nat.le_of_ble_eq_true rfl) dX6_referenceOf_18 ⟨_, rfl, hP⟩
def P_X6_tableOf (a0 : Nat) (x1 : Int32) (σ : Hp) (post : Int32 → Hp → Prop) : Prop :=
  (x1 < 0 → post (-1 : Int32) σ) ∧ (¬ (x1 < 0) → gk σ a0 = some (6, 0) ∧ ((gi σ a0 5) ≤ x1 → post (-1 : Int32) σ) ∧ (¬ ((gi σ a0 5) ≤ x1) → ∃ b1 : Nat, (gr σ a0 0) = some b1 ∧ ∃ n2 : Nat, gk σ b1 = some (10, n2) ∧ ((Int32.ofNat n2) ≤ x1 → post (-1 : Int32) σ) ∧ (¬ ((Int32.ofNat n2) ≤ x1) → vp_in x1 n2 ∧ post (gi σ b1 (Int32.toNatClampNeg x1)) σ)))
set_option maxHeartbeats 2000000 in
set_option maxRecDepth 100000 in
theorem m_X6_tableOf (l : Launch) (G : GG) (N0 : Nat) (a0 : Nat) (x1 : Int32) (σ : Hp) (post : Int32 → Hp → Prop) (hP : P_X6_tableOf a0 x1 σ post) : MM l G N0 yX6_tableOf cX6_tableOf 2 (some .int) (0) (0) 0 0 [.ref a0, .int x1] σ (pI post) := by
  refine MM.of (by decide) (Nat.le_of_ble_eq_true rfl) ?_
  intro p e s m args below meth c X hr hnm
  refine V.to (lv2 := [(0, .ref a0), (1, .int x1)]) [0, 1] rfl rfl ?_
  unfold P_X6_tableOf at hP
  refine V_iload_n X dX6_tableOf_0 rfl 1 rfl ?_
  refine V_if_lt X (tgt := 30) dX6_tableOf_1 (by decide) (fun h1 => ?_) (fun h1 => ?_)
  · have hP := hP.1 h1
    refine V_iconst X (v := (-1 : Int32)) dX6_tableOf_30 (by decide) ?_
    exact V_iret X hr (Or.inl rfl) (Nat.le_of_ble_eq_true rfl) (Nat.le_of_ble_eq_true rfl) dX6_tableOf_31 ⟨_, rfl, hP⟩
  · have hP := hP.2 h1
    refine V_iload_n X dX6_tableOf_4 rfl 1 rfl ?_
    refine V_aload_n X dX6_tableOf_5 rfl 0 rfl ?_
    obtain ⟨h2, hP⟩ := hP
    refine V_geti X kf_RX6_27 rfl h2 dX6_tableOf_6 ?_
    refine V_icmp_ge X (tgt := 30) dX6_tableOf_9 (by decide) (fun h3 => ?_) (fun h3 => ?_)
    · have hP := hP.1 h3
      refine V_iconst X (v := (-1 : Int32)) dX6_tableOf_30 (by decide) ?_
      exact V_iret X hr (Or.inl rfl) (Nat.le_of_ble_eq_true rfl) (Nat.le_of_ble_eq_true rfl) dX6_tableOf_31 ⟨_, rfl, hP⟩
    · have hP := hP.2 h3
      refine V_iload_n X dX6_tableOf_12 rfl 1 rfl ?_
      refine V_aload_n X dX6_tableOf_13 rfl 0 rfl ?_
      refine V_getr X kf_RX6_9 rfl h2 dX6_tableOf_14 ?_
      obtain ⟨b1, h4, hP⟩ := hP
      refine V_dr0 h4 ?_
      obtain ⟨n2, h5, hP⟩ := hP
      refine V_alen X (Or.inl rfl) h5 dX6_tableOf_17 ?_
      refine V_icmp_ge X (tgt := 30) dX6_tableOf_18 (by decide) (fun h6 => ?_) (fun h6 => ?_)
      · have hP := hP.1 h6
        refine V_iconst X (v := (-1 : Int32)) dX6_tableOf_30 (by decide) ?_
        exact V_iret X hr (Or.inl rfl) (Nat.le_of_ble_eq_true rfl) (Nat.le_of_ble_eq_true rfl) dX6_tableOf_31 ⟨_, rfl, hP⟩
      · have hP := hP.2 h6
        refine V_aload_n X dX6_tableOf_21 rfl 0 rfl ?_
        refine V_getr X kf_RX6_9 rfl h2 dX6_tableOf_22 ?_
        refine V_iload_n X dX6_tableOf_25 rfl 1 rfl ?_
        refine V_dr1 h4 ?_
        obtain ⟨h7, hP⟩ := hP
        refine V_iald X h5 h7 dX6_tableOf_26 ?_
        refine V_goto X (tgt := 31) dX6_tableOf_27 (by decide) ?_
        exact V_iret X hr (Or.inl rfl) (Nat.le_of_ble_eq_true rfl) (Nat.le_of_ble_eq_true rfl) dX6_tableOf_31 ⟨_, rfl, hP⟩
def P_X1_isFull (a0 : Nat) (σ : Hp) (post : Int32 → Hp → Prop) : Prop :=
  gk σ a0 = some (1, 0) ∧ ∃ b1 : Nat, (gr σ a0 0) = some b1 ∧ ∃ n2 : Nat, gk σ b1 = some (10, n2) ∧ ((gi σ a0 1) < (Int32.ofNat n2) → post (0 : Int32) σ) ∧ (¬ ((gi σ a0 1) < (Int32.ofNat n2)) → post (1 : Int32) σ)
set_option maxHeartbeats 2000000 in
set_option maxRecDepth 100000 in
theorem m_X1_isFull (l : Launch) (G : GG) (N0 : Nat) (a0 : Nat) (σ : Hp) (post : Int32 → Hp → Prop) (hP : P_X1_isFull a0 σ post) : MM l G N0 yX1_isFull cX1_isFull 1 (some .boolean) (0) (0) 0 0 [.ref a0] σ (pI post) := by
  refine MM.of (by decide) (Nat.le_of_ble_eq_true rfl) ?_
  intro p e s m args below meth c X hr hnm
  refine V.to (lv2 := [(0, .ref a0)]) [0] rfl rfl ?_
  unfold P_X1_isFull at hP
  refine V_aload_n X dX1_isFull_0 rfl 0 rfl ?_
  obtain ⟨h1, hP⟩ := hP
  refine V_geti X kf_RX1_15 rfl h1 dX1_isFull_1 ?_
  refine V_aload_n X dX1_isFull_4 rfl 0 rfl ?_
  refine V_getr X kf_RX1_9 rfl h1 dX1_isFull_5 ?_
  obtain ⟨b1, h2, hP⟩ := hP
  refine V_dr0 h2 ?_
  obtain ⟨n2, h3, hP⟩ := hP
  refine V_alen X (Or.inl rfl) h3 dX1_isFull_8 ?_
  refine V_icmp_lt X (tgt := 16) dX1_isFull_9 (by decide) (fun h4 => ?_) (fun h4 => ?_)
  · have hP := hP.1 h4
    refine V_iconst X (v := (0 : Int32)) dX1_isFull_16 (by decide) ?_
    exact V_iret X hr (Or.inr ⟨rfl, Or.inl rfl⟩) (Nat.le_of_ble_eq_true rfl) (Nat.le_of_ble_eq_true rfl) dX1_isFull_17 ⟨_, rfl, hP⟩
  · have hP := hP.2 h4
    refine V_iconst X (v := (1 : Int32)) dX1_isFull_12 (by decide) ?_
    refine V_goto X (tgt := 17) dX1_isFull_13 (by decide) ?_
    exact V_iret X hr (Or.inr ⟨rfl, Or.inr rfl⟩) (Nat.le_of_ble_eq_true rfl) (Nat.le_of_ble_eq_true rfl) dX1_isFull_17 ⟨_, rfl, hP⟩
def P_X6_items (a0 : Nat) (σ : Hp) (post : Int32 → Hp → Prop) : Prop :=
  gk σ a0 = some (6, 0) ∧ post (gi σ a0 6) σ
set_option maxHeartbeats 2000000 in
set_option maxRecDepth 100000 in
theorem m_X6_items (l : Launch) (G : GG) (N0 : Nat) (a0 : Nat) (σ : Hp) (post : Int32 → Hp → Prop) (hP : P_X6_items a0 σ post) : MM l G N0 yX6_items cX6_items 1 (some .int) (0) (0) 0 0 [.ref a0] σ (pI post) := by
  refine MM.of (by decide) (Nat.le_of_ble_eq_true rfl) ?_
  intro p e s m args below meth c X hr hnm
  refine V.to (lv2 := [(0, .ref a0)]) [0] rfl rfl ?_
  unfold P_X6_items at hP
  refine V_aload_n X dX6_items_0 rfl 0 rfl ?_
  obtain ⟨h1, hP⟩ := hP
  refine V_geti X kf_RX6_31 rfl h1 dX6_items_1 ?_
  exact V_iret X hr (Or.inl rfl) (Nat.le_of_ble_eq_true rfl) (Nat.le_of_ble_eq_true rfl) dX6_items_4 ⟨_, rfl, hP⟩
def P_X6_kindOf (a0 : Nat) (x1 : Int32) (σ : Hp) (post : Int32 → Hp → Prop) : Prop :=
  gk σ a0 = some (6, 0) ∧ P_X6_isItem a0 x1 σ (fun (r1 : Int32) (σ1 : Hp) => (r1 = 0 → post (-1 : Int32) σ1) ∧ (¬ (r1 = 0) → gk σ1 a0 = some (6, 0) ∧ ∃ b2 : Nat, (gr σ1 a0 2) = some b2 ∧ ∃ n3 : Nat, gk σ1 b2 = some (10, n3) ∧ vp_in x1 n3 ∧ post (gi σ1 b2 (Int32.toNatClampNeg x1)) σ1))
set_option maxHeartbeats 2000000 in
set_option maxRecDepth 100000 in
theorem m_X6_kindOf (l : Launch) (G : GG) (N0 : Nat) (a0 : Nat) (x1 : Int32) (σ : Hp) (post : Int32 → Hp → Prop) (hP : P_X6_kindOf a0 x1 σ post) : MM l G N0 yX6_kindOf cX6_kindOf 2 (some .int) (1) (21) 0 0 [.ref a0, .int x1] σ (pI post) := by
  refine MM.of (by decide) (Nat.le_of_ble_eq_true rfl) ?_
  intro p e s m args below meth c X hr hnm
  refine V.to (lv2 := [(0, .ref a0), (1, .int x1)]) [0, 1] rfl rfl ?_
  unfold P_X6_kindOf at hP
  refine V_aload_n X dX6_kindOf_0 rfl 0 rfl ?_
  refine V_iload_n X dX6_kindOf_1 rfl 1 rfl ?_
  obtain ⟨h1, hP⟩ := hP
  refine V_callV_i X [.int x1] kw_RX6_34 ki_X6_isItem ks_X6_isItem ksg_X6_isItem (m_X6_isItem l G N0 _ _ _ _ hP) h1 (by decide) rfl rfl ⟨Nat.le_of_ble_eq_true rfl, Nat.le_of_ble_eq_true rfl⟩ (Nat.le_of_ble_eq_true rfl) ⟨Nat.le_of_ble_eq_true rfl, Nat.le_of_ble_eq_true rfl⟩ rfl dX6_kindOf_2 (fun r1 σ1 hP => ?_)
  refine V_if_eq X (tgt := 17) dX6_kindOf_5 (by decide) (fun h2 => ?_) (fun h2 => ?_)
  · have hP := hP.1 h2
    refine V_iconst X (v := (-1 : Int32)) dX6_kindOf_17 (by decide) ?_
    exact V_iret X hr (Or.inl rfl) (Nat.le_of_ble_eq_true rfl) (Nat.le_of_ble_eq_true rfl) dX6_kindOf_18 ⟨_, rfl, hP⟩
  · have hP := hP.2 h2
    refine V_aload_n X dX6_kindOf_8 rfl 0 rfl ?_
    obtain ⟨h3, hP⟩ := hP
    refine V_getr X kf_RX6_18 rfl h3 dX6_kindOf_9 ?_
    refine V_iload_n X dX6_kindOf_12 rfl 1 rfl ?_
    obtain ⟨b2, h4, hP⟩ := hP
    refine V_dr1 h4 ?_
    obtain ⟨n3, h5, hP⟩ := hP
    obtain ⟨h6, hP⟩ := hP
    refine V_iald X h5 h6 dX6_kindOf_13 ?_
    refine V_goto X (tgt := 18) dX6_kindOf_14 (by decide) ?_
    exact V_iret X hr (Or.inl rfl) (Nat.le_of_ble_eq_true rfl) (Nat.le_of_ble_eq_true rfl) dX6_kindOf_18 ⟨_, rfl, hP⟩
def P_X6_ownerOf (a0 : Nat) (x1 : Int32) (σ : Hp) (post : Int32 → Hp → Prop) : Prop :=
  gk σ a0 = some (6, 0) ∧ P_X6_isItem a0 x1 σ (fun (r1 : Int32) (σ1 : Hp) => (r1 = 0 → post (-1 : Int32) σ1) ∧ (¬ (r1 = 0) → gk σ1 a0 = some (6, 0) ∧ ∃ b2 : Nat, (gr σ1 a0 1) = some b2 ∧ ∃ n3 : Nat, gk σ1 b2 = some (10, n3) ∧ vp_in x1 n3 ∧ post (gi σ1 b2 (Int32.toNatClampNeg x1)) σ1))
set_option maxHeartbeats 2000000 in
set_option maxRecDepth 100000 in
theorem m_X6_ownerOf (l : Launch) (G : GG) (N0 : Nat) (a0 : Nat) (x1 : Int32) (σ : Hp) (post : Int32 → Hp → Prop) (hP : P_X6_ownerOf a0 x1 σ post) : MM l G N0 yX6_ownerOf cX6_ownerOf 2 (some .int) (1) (21) 0 0 [.ref a0, .int x1] σ (pI post) := by
  refine MM.of (by decide) (Nat.le_of_ble_eq_true rfl) ?_
  intro p e s m args below meth c X hr hnm
  refine V.to (lv2 := [(0, .ref a0), (1, .int x1)]) [0, 1] rfl rfl ?_
  unfold P_X6_ownerOf at hP
  refine V_aload_n X dX6_ownerOf_0 rfl 0 rfl ?_
  refine V_iload_n X dX6_ownerOf_1 rfl 1 rfl ?_
  obtain ⟨h1, hP⟩ := hP
  refine V_callV_i X [.int x1] kw_RX6_34 ki_X6_isItem ks_X6_isItem ksg_X6_isItem (m_X6_isItem l G N0 _ _ _ _ hP) h1 (by decide) rfl rfl ⟨Nat.le_of_ble_eq_true rfl, Nat.le_of_ble_eq_true rfl⟩ (Nat.le_of_ble_eq_true rfl) ⟨Nat.le_of_ble_eq_true rfl, Nat.le_of_ble_eq_true rfl⟩ rfl dX6_ownerOf_2 (fun r1 σ1 hP => ?_)
  refine V_if_eq X (tgt := 17) dX6_ownerOf_5 (by decide) (fun h2 => ?_) (fun h2 => ?_)
  · have hP := hP.1 h2
    refine V_iconst X (v := (-1 : Int32)) dX6_ownerOf_17 (by decide) ?_
    exact V_iret X hr (Or.inl rfl) (Nat.le_of_ble_eq_true rfl) (Nat.le_of_ble_eq_true rfl) dX6_ownerOf_18 ⟨_, rfl, hP⟩
  · have hP := hP.2 h2
    refine V_aload_n X dX6_ownerOf_8 rfl 0 rfl ?_
    obtain ⟨h3, hP⟩ := hP
    refine V_getr X kf_RX6_15 rfl h3 dX6_ownerOf_9 ?_
    refine V_iload_n X dX6_ownerOf_12 rfl 1 rfl ?_
    obtain ⟨b2, h4, hP⟩ := hP
    refine V_dr1 h4 ?_
    obtain ⟨n3, h5, hP⟩ := hP
    obtain ⟨h6, hP⟩ := hP
    refine V_iald X h5 h6 dX6_ownerOf_13 ?_
    refine V_goto X (tgt := 18) dX6_ownerOf_14 (by decide) ?_
    exact V_iret X hr (Or.inl rfl) (Nat.le_of_ble_eq_true rfl) (Nat.le_of_ble_eq_true rfl) dX6_ownerOf_18 ⟨_, rfl, hP⟩
def P_X5_known (a0 : Nat) (σ : Hp) (post : Int32 → Hp → Prop) : Prop :=
  gk σ a0 = some (5, 0) ∧ post (gi σ a0 1) σ
set_option maxHeartbeats 2000000 in
set_option maxRecDepth 100000 in
theorem m_X5_known (l : Launch) (G : GG) (N0 : Nat) (a0 : Nat) (σ : Hp) (post : Int32 → Hp → Prop) (hP : P_X5_known a0 σ post) : MM l G N0 yX5_known cX5_known 1 (some .int) (0) (0) 0 0 [.ref a0] σ (pI post) := by
  refine MM.of (by decide) (Nat.le_of_ble_eq_true rfl) ?_
  intro p e s m args below meth c X hr hnm
  refine V.to (lv2 := [(0, .ref a0)]) [0] rfl rfl ?_
  unfold P_X5_known at hP
  refine V_aload_n X dX5_known_0 rfl 0 rfl ?_
  obtain ⟨h1, hP⟩ := hP
  refine V_geti X kf_RX5_17 rfl h1 dX5_known_1 ?_
  exact V_iret X hr (Or.inl rfl) (Nat.le_of_ble_eq_true rfl) (Nat.le_of_ble_eq_true rfl) dX5_known_4 ⟨_, rfl, hP⟩
def O_X1_addUp (P_X1_addPart : Nat → Nat → Nat → Int32 → Nat → Int32 → Hp → (Hp → Prop) → Prop) (a0 : Nat) (a1 : Nat) (a2 : Nat) (x3 : Int32) (a4 : Nat) (x5 : Int32) (σ : Hp) (post : Hp → Prop) : Prop :=
  gk σ a1 = some (6, 0) ∧ P_X6_partWithin a1 x3 σ (fun (r1 : Int32) (σ1 : Hp) => gk σ1 a1 = some (6, 0) ∧ P_X6_referenceOf a1 x3 σ1 (fun (r2 : Int32) (σ2 : Hp) => gk σ2 a4 = some (4, 0) ∧ P_X4_referenceBy a4 r2 σ2 (fun (r3 : Int32) (σ3 : Hp) => gk σ3 a2 = some (5, 0) ∧ P_X5_standing a2 r3 σ3 (fun (r4 : Option Nat) (σ4 : Hp) => (r4 = none → post σ4) ∧ (∀ b5 : Nat, r4 = some b5 → gk σ4 b5 = some (4, 0) ∧ gk σ4 a1 = some (6, 0) ∧ P_X6_tableOf a1 r1 σ4 (fun (r6 : Int32) (σ6 : Hp) => (¬ (gi σ4 b5 1) = r6 → post σ6) ∧ ((gi σ4 b5 1) = r6 → gk σ6 a0 = some (1, 0) ∧ P_X1_addPart a0 a1 a2 r1 b5 (x5 + (1 : Int32)) σ6 (fun (σ7 : Hp) => post σ7))))))))
set_option maxHeartbeats 2000000 in
set_option maxRecDepth 100000 in
theorem mO_X1_addUp (l : Launch) (G : GG) (N0 : Nat) {fr lo : Nat} (hfr : 20 ≤ fr) (hlo : 400 ≤ lo) (P_X1_addPart : Nat → Nat → Nat → Int32 → Nat → Int32 → Hp → (Hp → Prop) → Prop) (hX1_addPart : ∀ (a0 : Nat) (a1 : Nat) (a2 : Nat) (x3 : Int32) (a4 : Nat) (x5 : Int32) (σ : Hp) (post : Hp → Prop), P_X1_addPart a0 a1 a2 x3 a4 x5 σ post → MM l G N0 yX1_addPart cX1_addPart 11 none fr lo 0 0 [.ref a0, .ref a1, .ref a2, .int x3, .ref a4, .int x5] σ (pV post)) (a0 : Nat) (a1 : Nat) (a2 : Nat) (x3 : Int32) (a4 : Nat) (x5 : Int32) (σ : Hp) (post : Hp → Prop) (hP : O_X1_addUp P_X1_addPart a0 a1 a2 x3 a4 x5 σ post) : MM l G N0 yX1_addUp cX1_addUp 8 none (fr + 1) (lo + 39) 0 0 [.ref a0, .ref a1, .ref a2, .int x3, .ref a4, .int x5] σ (pV post) := by
  refine MM.of (by decide) (Nat.le_of_ble_eq_true rfl) ?_
  intro p e s m args below meth c X hr hnm
  refine V.to (lv2 := [(0, .ref a0), (1, .ref a1), (2, .ref a2), (3, .int x3), (4, .ref a4), (5, .int x5)]) [0, 1, 2, 3, 4, 5] rfl rfl ?_
  unfold O_X1_addUp at hP
  refine V_aload_n X dX1_addUp_0 rfl 1 rfl ?_
  refine V_iload_n X dX1_addUp_1 rfl 3 rfl ?_
  obtain ⟨h1, hP⟩ := hP
  refine V_callV_i X [.int x3] kw_RX1_90 ki_X6_partWithin ks_X6_partWithin ksg_X6_partWithin (m_X6_partWithin l G N0 _ _ _ _ hP) h1 (by decide) rfl rfl ⟨show 1 + 1 ≤ fr + 1 from by omega, show 8 + (2 + 11) + 21 ≤ lo + 39 from by omega⟩ (Nat.le_of_ble_eq_true rfl) ⟨Nat.le_of_ble_eq_true rfl, Nat.le_of_ble_eq_true rfl⟩ rfl dX1_addUp_2 (fun r1 σ1 hP => ?_)
  refine V_istore X (lv' := [(6, .int r1), (0, .ref a0), (1, .ref a1), (2, .ref a2), (3, .int x3), (4, .ref a4), (5, .int x5)]) dX1_addUp_5 (by decide) rfl ?_
  refine V_aload_n X dX1_addUp_7 rfl 3 rfl ?_
  refine V_aload X dX1_addUp_8 5 rfl ?_
  refine V_aload_n X dX1_addUp_10 rfl 2 rfl ?_
  refine V_iload_n X dX1_addUp_11 rfl 4 rfl ?_
  obtain ⟨h2, hP⟩ := hP
  refine V_callV_i X [.int x3] kw_RX1_93 ki_X6_referenceOf ks_X6_referenceOf ksg_X6_referenceOf (m_X6_referenceOf l G N0 _ _ _ _ hP) h2 (by decide) rfl rfl ⟨show 1 + 1 ≤ fr + 1 from by omega, show 8 + (2 + 11) + 21 ≤ lo + 39 from by omega⟩ (Nat.le_of_ble_eq_true rfl) ⟨Nat.le_of_ble_eq_true rfl, Nat.le_of_ble_eq_true rfl⟩ rfl dX1_addUp_12 (fun r2 σ2 hP => ?_)
  obtain ⟨h3, hP⟩ := hP
  refine V_callV_i X [.int r2] kw_RX1_96 ki_X4_referenceBy ks_X4_referenceBy ksg_X4_referenceBy (m_X4_referenceBy l G N0 _ _ _ _ hP) h3 (by decide) rfl rfl ⟨show 0 + 1 ≤ fr + 1 from by omega, show 8 + (2 + 11) + 0 ≤ lo + 39 from by omega⟩ (Nat.le_of_ble_eq_true rfl) ⟨Nat.le_of_ble_eq_true rfl, Nat.le_of_ble_eq_true rfl⟩ rfl dX1_addUp_15 (fun r3 σ3 hP => ?_)
  obtain ⟨h4, hP⟩ := hP
  refine V_callV_r X [.int r3] kw_RX1_40 ki_X5_standing ks_X5_standing ksg_X5_standing (m_X5_standing l G N0 _ _ _ _ hP) h4 (by decide) rfl rfl ⟨show 1 + 1 ≤ fr + 1 from by omega, show 8 + (3 + 11) + 21 ≤ lo + 39 from by omega⟩ (Nat.le_of_ble_eq_true rfl) ⟨Nat.le_of_ble_eq_true rfl, Nat.le_of_ble_eq_true rfl⟩ rfl dX1_addUp_18 (fun r4 σ4 hP => ?_)
  refine V_astorer X (x := r4) (lv' := [(7, va_rf r4), (6, .int r1), (0, .ref a0), (1, .ref a1), (2, .ref a2), (3, .int x3), (4, .ref a4), (5, .int x5)]) dX1_addUp_21 (by decide) rfl ?_
  refine V_aloadr X dX1_addUp_23 0 rfl ?_
  refine V_ifnull X (tgt := 56) dX1_addUp_25 (by decide) (fun h5 => ?_) (fun b5 h5 => ?_)
  · have hP := hP.1 h5
    exact V_vret X hr (Nat.le_of_ble_eq_true rfl) (Nat.le_of_ble_eq_true rfl) dX1_addUp_56 ⟨rfl, hP⟩
  · have hP := hP.2 b5 h5
    refine V_aloadr X dX1_addUp_28 0 rfl ?_
    refine V_dr0 h5 ?_
    obtain ⟨h6, hP⟩ := hP
    refine V_geti X kf_RX1_46 rfl h6 dX1_addUp_30 ?_
    refine V_aload_n X dX1_addUp_33 rfl 3 rfl ?_
    refine V_iload X dX1_addUp_34 1 rfl ?_
    obtain ⟨h7, hP⟩ := hP
    refine V_callV_i X [.int r1] kw_RX1_51 ki_X6_tableOf ks_X6_tableOf ksg_X6_tableOf (m_X6_tableOf l G N0 _ _ _ _ hP) h7 (by decide) rfl rfl ⟨show 0 + 1 ≤ fr + 1 from by omega, show 8 + (2 + 11) + 0 ≤ lo + 39 from by omega⟩ (Nat.le_of_ble_eq_true rfl) ⟨Nat.le_of_ble_eq_true rfl, Nat.le_of_ble_eq_true rfl⟩ rfl dX1_addUp_36 (fun r6 σ6 hP => ?_)
    refine V_icmp_ne X (tgt := 56) dX1_addUp_39 (by decide) (fun h8 => ?_) (fun h8 => ?_)
    · have hP := hP.1 h8
      exact V_vret X hr (Nat.le_of_ble_eq_true rfl) (Nat.le_of_ble_eq_true rfl) dX1_addUp_56 ⟨rfl, hP⟩
    · have hP := hP.2 h8
      refine V_aload_n X dX1_addUp_42 rfl 2 rfl ?_
      refine V_aload_n X dX1_addUp_43 rfl 3 rfl ?_
      refine V_aload_n X dX1_addUp_44 rfl 4 rfl ?_
      refine V_iload X dX1_addUp_45 1 rfl ?_
      refine V_aloadr X dX1_addUp_47 0 rfl ?_
      refine V_iload X dX1_addUp_49 7 rfl ?_
      refine V_iconst X (v := (1 : Int32)) dX1_addUp_51 (by decide) ?_
      refine V_iadd X dX1_addUp_52 ?_
      refine V_dr1 h5 ?_
      obtain ⟨h9, hP⟩ := hP
      refine V_callV_v X [.ref a1, .ref a2, .int r1, .ref b5, .int (x5 + (1 : Int32))] kw_RX1_56 ki_X1_addPart ks_X1_addPart ksg_X1_addPart (hX1_addPart _ _ _ _ _ _ _ _ hP) h9 (by decide) rfl rfl ⟨show fr + 1 ≤ fr + 1 from Nat.le_refl _, show 8 + (11 + 11) + lo ≤ lo + 39 from by omega⟩ (Nat.le_of_ble_eq_true rfl) ⟨Nat.le_of_ble_eq_true rfl, Nat.le_of_ble_eq_true rfl⟩ rfl dX1_addUp_53 (fun σ7 hP => ?_)
      exact V_vret X hr (Nat.le_of_ble_eq_true rfl) (Nat.le_of_ble_eq_true rfl) dX1_addUp_56 ⟨rfl, hP⟩
def F_X1_addPart_83 (P_X1_addDown : Nat → Nat → Nat → Int32 → Nat → Int32 → Hp → (Hp → Prop) → Prop) (P_X1_addUp : Nat → Nat → Nat → Int32 → Nat → Int32 → Hp → (Hp → Prop) → Prop) (a0 : Nat) (a1 : Nat) (a2 : Nat) (x3 : Int32) (a4 : Nat) (x5 : Int32) (u8 : Int32) (post : Hp → Prop) (K174 : Int32 → Hp → Prop) (I83 : Int32 → Hp → Prop) (v9 : Int32) (σ83 : Hp) : Prop :=
  (u8 ≤ v9 → K174 v9 σ83) ∧ (¬ (u8 ≤ v9) → gk σ83 a1 = some (6, 0) ∧ P_X6_ownerOf a1 v9 σ83 (fun (r8301 : Int32) (σ8301 : Hp) => (¬ r8301 = x3 → (¬ (-1 : Int32) = 0 → (¬ (-1 : Int32) = (1 : Int32) → (¬ (-1 : Int32) = (2 : Int32) → I83 (v9 + (1 : Int32)) σ8301) ∧ ((-1 : Int32) = (2 : Int32) → gk σ8301 a0 = some (1, 0) ∧ P_X1_addDown a0 a1 a2 v9 a4 x5 σ8301 (fun (σ8302 : Hp) => I83 (v9 + (1 : Int32)) σ8302))) ∧ ((-1 : Int32) = (1 : Int32) → gk σ8301 a0 = some (1, 0) ∧ P_X1_addUp a0 a1 a2 v9 a4 x5 σ8301 (fun (σ8303 : Hp) => I83 (v9 + (1 : Int32)) σ8303))) ∧ ((-1 : Int32) = 0 → gk σ8301 a4 = some (4, 0) ∧ gk σ8301 a0 = some (1, 0) ∧ P_X1_add a0 (gi σ8301 a4 2) σ8301 (fun (σ8304 : Hp) => I83 (v9 + (1 : Int32)) σ8304))) ∧ (r8301 = x3 → gk σ8301 a1 = some (6, 0) ∧ P_X6_kindOf a1 v9 σ8301 (fun (r8305 : Int32) (σ8305 : Hp) => (¬ r8305 = 0 → (¬ r8305 = (1 : Int32) → (¬ r8305 = (2 : Int32) → I83 (v9 + (1 : Int32)) σ8305) ∧ (r8305 = (2 : Int32) → gk σ8305 a0 = some (1, 0) ∧ P_X1_addDown a0 a1 a2 v9 a4 x5 σ8305 (fun (σ8306 : Hp) => I83 (v9 + (1 : Int32)) σ8306))) ∧ (r8305 = (1 : Int32) → gk σ8305 a0 = some (1, 0) ∧ P_X1_addUp a0 a1 a2 v9 a4 x5 σ8305 (fun (σ8307 : Hp) => I83 (v9 + (1 : Int32)) σ8307))) ∧ (r8305 = 0 → gk σ8305 a4 = some (4, 0) ∧ gk σ8305 a0 = some (1, 0) ∧ P_X1_add a0 (gi σ8305 a4 2) σ8305 (fun (σ8308 : Hp) => I83 (v9 + (1 : Int32)) σ8308))))))
def O_X1_addPart (P_X1_addDown : Nat → Nat → Nat → Int32 → Nat → Int32 → Hp → (Hp → Prop) → Prop) (P_X1_addUp : Nat → Nat → Nat → Int32 → Nat → Int32 → Hp → (Hp → Prop) → Prop) (a0 : Nat) (a1 : Nat) (a2 : Nat) (x3 : Int32) (a4 : Nat) (x5 : Int32) (σ : Hp) (post : Hp → Prop) : Prop :=
  ((6 : Int32) < x5 → post σ) ∧ (¬ ((6 : Int32) < x5) → gk σ a0 = some (1, 0) ∧ P_X1_isFull a0 σ (fun (r1 : Int32) (σ1 : Hp) => (r1 = 0 → gk σ1 a4 = some (4, 0) ∧ gk σ1 a0 = some (1, 0) ∧ ((lg_cmp ((gl σ1 a0 2) &&& ((1 : Int64) <<< (Int32.toInt64 (gi σ1 a4 0) &&& 63))) (0 : Int64)) = 0 → P_X1_add a0 ((10000 : Int32) + (gi σ1 a4 0)) (sl σ1 a0 2 ((gl σ1 a0 2) ||| ((1 : Int64) <<< (Int32.toInt64 (gi σ1 a4 0) &&& 63)))) (fun (σ2 : Hp) => gk σ2 a1 = some (6, 0) ∧ P_X6_items a1 σ2 (fun (r3 : Int32) (σ3 : Hp) => lfp1 (F_X1_addPart_83 P_X1_addDown P_X1_addUp a0 a1 a2 x3 a4 x5 r3 post (fun (v9_174 : Int32) (σx174 : Hp) => gk σx174 a0 = some (1, 0) ∧ P_X1_add a0 (30000 : Int32) σx174 (fun (σ4 : Hp) => post σ4))) (0 : Int32) σ3))) ∧ (¬ ((lg_cmp ((gl σ1 a0 2) &&& ((1 : Int64) <<< (Int32.toInt64 (gi σ1 a4 0) &&& 63))) (0 : Int64)) = 0) → P_X1_add a0 ((20000 : Int32) + (gi σ1 a4 0)) σ1 (fun (σ5 : Hp) => post σ5))) ∧ (¬ (r1 = 0) → post σ1)))
set_option maxHeartbeats 2000000 in
set_option maxRecDepth 100000 in
theorem mO_X1_addPart (l : Launch) (G : GG) (N0 : Nat) {fr lo : Nat} (hfr : 20 ≤ fr) (hlo : 400 ≤ lo) (P_X1_addDown : Nat → Nat → Nat → Int32 → Nat → Int32 → Hp → (Hp → Prop) → Prop) (hX1_addDown : ∀ (a0 : Nat) (a1 : Nat) (a2 : Nat) (x3 : Int32) (a4 : Nat) (x5 : Int32) (σ : Hp) (post : Hp → Prop), P_X1_addDown a0 a1 a2 x3 a4 x5 σ post → MM l G N0 yX1_addDown cX1_addDown 11 none fr lo 0 0 [.ref a0, .ref a1, .ref a2, .int x3, .ref a4, .int x5] σ (pV post)) (P_X1_addUp : Nat → Nat → Nat → Int32 → Nat → Int32 → Hp → (Hp → Prop) → Prop) (hX1_addUp : ∀ (a0 : Nat) (a1 : Nat) (a2 : Nat) (x3 : Int32) (a4 : Nat) (x5 : Int32) (σ : Hp) (post : Hp → Prop), P_X1_addUp a0 a1 a2 x3 a4 x5 σ post → MM l G N0 yX1_addUp cX1_addUp 8 none fr lo 0 0 [.ref a0, .ref a1, .ref a2, .int x3, .ref a4, .int x5] σ (pV post)) (a0 : Nat) (a1 : Nat) (a2 : Nat) (x3 : Int32) (a4 : Nat) (x5 : Int32) (σ : Hp) (post : Hp → Prop) (hP : O_X1_addPart P_X1_addDown P_X1_addUp a0 a1 a2 x3 a4 x5 σ post) : MM l G N0 yX1_addPart cX1_addPart 11 none (fr + 1) (lo + 39) 0 0 [.ref a0, .ref a1, .ref a2, .int x3, .ref a4, .int x5] σ (pV post) := by
  refine MM.of (by decide) (Nat.le_of_ble_eq_true rfl) ?_
  intro p e s m args below meth c X hr hnm
  refine V.to (lv2 := [(0, .ref a0), (1, .ref a1), (2, .ref a2), (3, .int x3), (4, .ref a4), (5, .int x5)]) [0, 1, 2, 3, 4, 5] rfl rfl ?_
  unfold O_X1_addPart at hP
  refine V_iload X dX1_addPart_0 5 rfl ?_
  refine V_bipush X (v := (6 : Int32)) dX1_addPart_2 (by decide) ?_
  refine V_icmp_gt X (tgt := 14) dX1_addPart_4 (by decide) (fun h1 => ?_) (fun h1 => ?_)
  · have hP := hP.1 h1
    exact V_vret X hr (Nat.le_of_ble_eq_true rfl) (Nat.le_of_ble_eq_true rfl) dX1_addPart_14 ⟨rfl, hP⟩
  · have hP := hP.2 h1
    refine V_aload_n X dX1_addPart_7 rfl 0 rfl ?_
    obtain ⟨h2, hP⟩ := hP
    refine V_callV_i X [] kw_RX1_60 ki_X1_isFull ks_X1_isFull ksg_X1_isFull (m_X1_isFull l G N0 _ _ _ hP) h2 (by decide) rfl rfl ⟨show 0 + 1 ≤ fr + 1 from by omega, show 8 + (1 + 11) + 0 ≤ lo + 39 from by omega⟩ (Nat.le_of_ble_eq_true rfl) ⟨Nat.le_of_ble_eq_true rfl, Nat.le_of_ble_eq_true rfl⟩ rfl dX1_addPart_8 (fun r1 σ1 hP => ?_)
    refine V_if_eq X (tgt := 15) dX1_addPart_11 (by decide) (fun h3 => ?_) (fun h3 => ?_)
    · have hP := hP.1 h3
      refine V_lconst X (v := (1 : Int64)) dX1_addPart_15 (by decide) ?_
      refine V_aload X dX1_addPart_16 4 rfl ?_
      obtain ⟨h4, hP⟩ := hP
      refine V_geti X kf_RX1_64 rfl h4 dX1_addPart_18 ?_
      refine V_lshl X dX1_addPart_21 ?_
      refine V_lstore X (lv' := [(6, .long ((1 : Int64) <<< (Int32.toInt64 (gi σ1 a4 0) &&& 63))), (0, .ref a0), (1, .ref a1), (2, .ref a2), (3, .int x3), (4, .ref a4), (5, .int x5)]) dX1_addPart_22 (by decide) rfl ?_
      refine V_aload_n X dX1_addPart_24 rfl 1 rfl ?_
      obtain ⟨h5, hP⟩ := hP
      refine V_getl X kf_RX1_19 rfl h5 dX1_addPart_25 ?_
      refine V_lload X dX1_addPart_28 0 rfl ?_
      refine V_land X dX1_addPart_30 ?_
      refine V_lconst X (v := (0 : Int64)) dX1_addPart_31 (by decide) ?_
      refine V_lcmp X dX1_addPart_32 ?_
      refine V_if_eq X (tgt := 50) dX1_addPart_33 (by decide) (fun h6 => ?_) (fun h6 => ?_)
      · have hP := hP.1 h6
        refine V_aload_n X dX1_addPart_50 rfl 1 rfl ?_
        refine V_dup X dX1_addPart_51 rfl ?_
        refine V_getl X kf_RX1_19 rfl h5 dX1_addPart_52 ?_
        refine V_lload X dX1_addPart_55 0 rfl ?_
        refine V_lor X dX1_addPart_57 ?_
        refine V_putl X kf_RX1_19 (fun h => by cases h) rfl h5 dX1_addPart_58 ?_
        refine V_aload_n X dX1_addPart_61 rfl 1 rfl ?_
        refine V_sipush X (v := (10000 : Int32)) dX1_addPart_62 (by decide) ?_
        refine V_aload X dX1_addPart_65 5 rfl ?_
        refine V_geti X kf_RX1_64 rfl h4 dX1_addPart_67 ?_
        rw [show gi (sl σ1 a0 2 ((gl σ1 a0 2) ||| ((1 : Int64) <<< (Int32.toInt64 (gi σ1 a4 0) &&& 63)))) a4 0 = (gi σ1 a4 0) from rfl]
        refine V_iadd X dX1_addPart_70 ?_
        refine V_callV_v X [.int ((10000 : Int32) + (gi σ1 a4 0))] kw_RX1_67 ki_X1_add ks_X1_add ksg_X1_add (m_X1_add l G N0 _ _ _ _ hP) h5 (by decide) rfl rfl ⟨show 0 + 1 ≤ fr + 1 from by omega, show 8 + (2 + 11) + 0 ≤ lo + 39 from by omega⟩ (Nat.le_of_ble_eq_true rfl) ⟨Nat.le_of_ble_eq_true rfl, Nat.le_of_ble_eq_true rfl⟩ rfl dX1_addPart_71 (fun σ2 hP => ?_)
        refine V_aload_n X dX1_addPart_74 rfl 2 rfl ?_
        obtain ⟨h7, hP⟩ := hP
        refine V_callV_i X [] kw_RX1_71 ki_X6_items ks_X6_items ksg_X6_items (m_X6_items l G N0 _ _ _ hP) h7 (by decide) rfl rfl ⟨show 0 + 1 ≤ fr + 1 from by omega, show 8 + (1 + 11) + 0 ≤ lo + 39 from by omega⟩ (Nat.le_of_ble_eq_true rfl) ⟨Nat.le_of_ble_eq_true rfl, Nat.le_of_ble_eq_true rfl⟩ rfl dX1_addPart_75 (fun r3 σ3 hP => ?_)
        refine V_istore X (lv' := [(8, .int r3), (6, .long ((1 : Int64) <<< (Int32.toInt64 (gi σ1 a4 0) &&& 63))), (0, .ref a0), (1, .ref a1), (2, .ref a2), (3, .int x3), (4, .ref a4), (5, .int x5)]) dX1_addPart_78 (by decide) rfl ?_
        refine V_iconst X (v := (0 : Int32)) dX1_addPart_80 (by decide) ?_
        refine V_istore X (lv' := [(9, .int (0 : Int32)), (8, .int r3), (6, .long ((1 : Int64) <<< (Int32.toInt64 (gi σ1 a4 0) &&& 63))), (0, .ref a0), (1, .ref a1), (2, .ref a2), (3, .int x3), (4, .ref a4), (5, .int x5)]) dX1_addPart_81 (by decide) rfl ?_
        have hK174_83 : ∀ (v9_174 : Int32) (σx174 : Hp), (gk σx174 a0 = some (1, 0) ∧ P_X1_add a0 (30000 : Int32) σx174 (fun (σ4 : Hp) => post σ4)) → V p l e { frames := fr + 1, cells := 0, slots := 0, locals := lo + 39 } s m args below meth c (MQ below (QC G N0 (pV post)) args s 0 0 (AN N0)) G N0 11 σx174 0 0 174 [(0, .ref a0), (1, .ref a1), (2, .ref a2), (3, .int x3), (4, .ref a4), (5, .int x5), (8, .int r3), (9, .int v9_174)] [] := by
          intro v9_174 σx174 hP
          refine V_aload_n X dX1_addPart_174 rfl 0 rfl ?_
          refine V_sipush X (v := (30000 : Int32)) dX1_addPart_175 (by decide) ?_
          obtain ⟨h8, hP⟩ := hP
          refine V_callV_v X [.int (30000 : Int32)] kw_RX1_67 ki_X1_add ks_X1_add ksg_X1_add (m_X1_add l G N0 _ _ _ _ hP) h8 (by decide) rfl rfl ⟨show 0 + 1 ≤ fr + 1 from by omega, show 8 + (2 + 11) + 0 ≤ lo + 39 from by omega⟩ (Nat.le_of_ble_eq_true rfl) ⟨Nat.le_of_ble_eq_true rfl, Nat.le_of_ble_eq_true rfl⟩ rfl dX1_addPart_178 (fun σ4 hP => ?_)
          exact V_vret X hr (Nat.le_of_ble_eq_true rfl) (Nat.le_of_ble_eq_true rfl) dX1_addPart_181 ⟨rfl, hP⟩
        refine V.to (lv2 := [(0, .ref a0), (1, .ref a1), (2, .ref a2), (3, .int x3), (4, .ref a4), (5, .int x5), (8, .int r3), (9, .int (0 : Int32))]) [3, 4, 5, 6, 7, 8, 1, 0] rfl rfl ?_
        refine lfp1_use (fun v9 σ83 => V p l e { frames := fr + 1, cells := 0, slots := 0, locals := lo + 39 } s m args below meth c (MQ below (QC G N0 (pV post)) args s 0 0 (AN N0)) G N0 11 σ83 0 0 83 [(0, .ref a0), (1, .ref a1), (2, .ref a2), (3, .int x3), (4, .ref a4), (5, .int x5), (8, .int r3), (9, .int v9)] []) hP ?_
        intro v9 σ83 hP
        unfold F_X1_addPart_83 at hP
        refine V_iload X dX1_addPart_83 7 rfl ?_
        refine V_iload X dX1_addPart_85 6 rfl ?_
        refine V_icmp_ge X (tgt := 174) dX1_addPart_87 (by decide) (fun h83001 => ?_) (fun h83001 => ?_)
        · have hP := hP.1 h83001
          exact V.to [0, 1, 2, 3, 4, 5, 6, 7] rfl rfl (hK174_83 _ _ hP)
        · have hP := hP.2 h83001
          refine V_aload_n X dX1_addPart_90 rfl 1 rfl ?_
          refine V_iload X dX1_addPart_91 7 rfl ?_
          obtain ⟨h83002, hP⟩ := hP
          refine V_callV_i X [.int v9] kw_RX1_75 ki_X6_ownerOf ks_X6_ownerOf ksg_X6_ownerOf (m_X6_ownerOf l G N0 _ _ _ _ hP) h83002 (by decide) rfl rfl ⟨show 1 + 1 ≤ fr + 1 from by omega, show 8 + (2 + 11) + 21 ≤ lo + 39 from by omega⟩ (Nat.le_of_ble_eq_true rfl) ⟨Nat.le_of_ble_eq_true rfl, Nat.le_of_ble_eq_true rfl⟩ rfl dX1_addPart_93 (fun r8301 σ8301 hP => ?_)
          refine V_iload_n X dX1_addPart_96 rfl 3 rfl ?_
          refine V_icmp_ne X (tgt := 109) dX1_addPart_97 (by decide) (fun h83003 => ?_) (fun h83003 => ?_)
          · have hP := hP.1 h83003
            refine V_iconst X (v := (-1 : Int32)) dX1_addPart_109 (by decide) ?_
            refine V_istore X (lv' := [(10, .int (-1 : Int32)), (0, .ref a0), (1, .ref a1), (2, .ref a2), (3, .int x3), (4, .ref a4), (5, .int x5), (8, .int r3), (9, .int v9)]) dX1_addPart_110 (by decide) rfl ?_
            refine V_iload X dX1_addPart_112 0 rfl ?_
            refine V_if_ne X (tgt := 129) dX1_addPart_114 (by decide) (fun h83004 => ?_) (fun h83004 => ?_)
            · have hP := hP.1 h83004
              refine V_iload X dX1_addPart_129 0 rfl ?_
              refine V_iconst X (v := (1 : Int32)) dX1_addPart_131 (by decide) ?_
              refine V_icmp_ne X (tgt := 150) dX1_addPart_132 (by decide) (fun h83005 => ?_) (fun h83005 => ?_)
              · have hP := hP.1 h83005
                refine V_iload X dX1_addPart_150 0 rfl ?_
                refine V_iconst X (v := (2 : Int32)) dX1_addPart_152 (by decide) ?_
                refine V_icmp_ne X (tgt := 168) dX1_addPart_153 (by decide) (fun h83006 => ?_) (fun h83006 => ?_)
                · have hP := hP.1 h83006
                  refine V_iinc X (v := (v9 + (1 : Int32))) (lv' := [(9, .int (v9 + (1 : Int32))), (10, .int (-1 : Int32)), (0, .ref a0), (1, .ref a1), (2, .ref a2), (3, .int x3), (4, .ref a4), (5, .int x5), (8, .int r3)]) dX1_addPart_168 8 rfl rfl (by decide) rfl ?_
                  refine V_goto X (tgt := 83) dX1_addPart_171 (by decide) ?_
                  exact V.to [2, 3, 4, 5, 6, 7, 8, 0] rfl rfl hP
                · have hP := hP.2 h83006
                  refine V_aload_n X dX1_addPart_156 rfl 1 rfl ?_
                  refine V_aload_n X dX1_addPart_157 rfl 2 rfl ?_
                  refine V_aload_n X dX1_addPart_158 rfl 3 rfl ?_
                  refine V_iload X dX1_addPart_159 8 rfl ?_
                  refine V_aload X dX1_addPart_161 5 rfl ?_
                  refine V_iload X dX1_addPart_163 6 rfl ?_
                  obtain ⟨h83007, hP⟩ := hP
                  refine V_callV_v X [.ref a1, .ref a2, .int v9, .ref a4, .int x5] kw_RX1_87 ki_X1_addDown ks_X1_addDown ksg_X1_addDown (hX1_addDown _ _ _ _ _ _ _ _ hP) h83007 (by decide) rfl rfl ⟨show fr + 1 ≤ fr + 1 from Nat.le_refl _, show 8 + (11 + 11) + lo ≤ lo + 39 from by omega⟩ (Nat.le_of_ble_eq_true rfl) ⟨Nat.le_of_ble_eq_true rfl, Nat.le_of_ble_eq_true rfl⟩ rfl dX1_addPart_165 (fun σ8302 hP => ?_)
                  refine V_iinc X (v := (v9 + (1 : Int32))) (lv' := [(9, .int (v9 + (1 : Int32))), (10, .int (-1 : Int32)), (0, .ref a0), (1, .ref a1), (2, .ref a2), (3, .int x3), (4, .ref a4), (5, .int x5), (8, .int r3)]) dX1_addPart_168 8 rfl rfl (by decide) rfl ?_
                  refine V_goto X (tgt := 83) dX1_addPart_171 (by decide) ?_
                  exact V.to [2, 3, 4, 5, 6, 7, 8, 0] rfl rfl hP
              · have hP := hP.2 h83005
                refine V_aload_n X dX1_addPart_135 rfl 1 rfl ?_
                refine V_aload_n X dX1_addPart_136 rfl 2 rfl ?_
                refine V_aload_n X dX1_addPart_137 rfl 3 rfl ?_
                refine V_iload X dX1_addPart_138 8 rfl ?_
                refine V_aload X dX1_addPart_140 5 rfl ?_
                refine V_iload X dX1_addPart_142 6 rfl ?_
                obtain ⟨h83008, hP⟩ := hP
                refine V_callV_v X [.ref a1, .ref a2, .int v9, .ref a4, .int x5] kw_RX1_84 ki_X1_addUp ks_X1_addUp ksg_X1_addUp (hX1_addUp _ _ _ _ _ _ _ _ hP) h83008 (by decide) rfl rfl ⟨show fr + 1 ≤ fr + 1 from Nat.le_refl _, show 8 + (8 + 11) + lo ≤ lo + 39 from by omega⟩ (Nat.le_of_ble_eq_true rfl) ⟨Nat.le_of_ble_eq_true rfl, Nat.le_of_ble_eq_true rfl⟩ rfl dX1_addPart_144 (fun σ8303 hP => ?_)
                refine V_goto X (tgt := 168) dX1_addPart_147 (by decide) ?_
                refine V_iinc X (v := (v9 + (1 : Int32))) (lv' := [(9, .int (v9 + (1 : Int32))), (10, .int (-1 : Int32)), (0, .ref a0), (1, .ref a1), (2, .ref a2), (3, .int x3), (4, .ref a4), (5, .int x5), (8, .int r3)]) dX1_addPart_168 8 rfl rfl (by decide) rfl ?_
                refine V_goto X (tgt := 83) dX1_addPart_171 (by decide) ?_
                exact V.to [2, 3, 4, 5, 6, 7, 8, 0] rfl rfl hP
            · have hP := hP.2 h83004
              refine V_aload_n X dX1_addPart_117 rfl 1 rfl ?_
              refine V_aload X dX1_addPart_118 5 rfl ?_
              obtain ⟨h83009, hP⟩ := hP
              refine V_geti X kf_RX1_81 rfl h83009 dX1_addPart_120 ?_
              obtain ⟨h83010, hP⟩ := hP
              refine V_callV_v X [.int (gi σ8301 a4 2)] kw_RX1_67 ki_X1_add ks_X1_add ksg_X1_add (m_X1_add l G N0 _ _ _ _ hP) h83010 (by decide) rfl rfl ⟨show 0 + 1 ≤ fr + 1 from by omega, show 8 + (2 + 11) + 0 ≤ lo + 39 from by omega⟩ (Nat.le_of_ble_eq_true rfl) ⟨Nat.le_of_ble_eq_true rfl, Nat.le_of_ble_eq_true rfl⟩ rfl dX1_addPart_123 (fun σ8304 hP => ?_)
              refine V_goto X (tgt := 168) dX1_addPart_126 (by decide) ?_
              refine V_iinc X (v := (v9 + (1 : Int32))) (lv' := [(9, .int (v9 + (1 : Int32))), (10, .int (-1 : Int32)), (0, .ref a0), (1, .ref a1), (2, .ref a2), (3, .int x3), (4, .ref a4), (5, .int x5), (8, .int r3)]) dX1_addPart_168 8 rfl rfl (by decide) rfl ?_
              refine V_goto X (tgt := 83) dX1_addPart_171 (by decide) ?_
              exact V.to [2, 3, 4, 5, 6, 7, 8, 0] rfl rfl hP
          · have hP := hP.2 h83003
            refine V_aload_n X dX1_addPart_100 rfl 1 rfl ?_
            refine V_iload X dX1_addPart_101 7 rfl ?_
            obtain ⟨h83011, hP⟩ := hP
            refine V_callV_i X [.int v9] kw_RX1_78 ki_X6_kindOf ks_X6_kindOf ksg_X6_kindOf (m_X6_kindOf l G N0 _ _ _ _ hP) h83011 (by decide) rfl rfl ⟨show 1 + 1 ≤ fr + 1 from by omega, show 8 + (2 + 11) + 21 ≤ lo + 39 from by omega⟩ (Nat.le_of_ble_eq_true rfl) ⟨Nat.le_of_ble_eq_true rfl, Nat.le_of_ble_eq_true rfl⟩ rfl dX1_addPart_103 (fun r8305 σ8305 hP => ?_)
            refine V_goto X (tgt := 110) dX1_addPart_106 (by decide) ?_
            refine V_istore X (lv' := [(10, .int r8305), (0, .ref a0), (1, .ref a1), (2, .ref a2), (3, .int x3), (4, .ref a4), (5, .int x5), (8, .int r3), (9, .int v9)]) dX1_addPart_110 (by decide) rfl ?_
            refine V_iload X dX1_addPart_112 0 rfl ?_
            refine V_if_ne X (tgt := 129) dX1_addPart_114 (by decide) (fun h83012 => ?_) (fun h83012 => ?_)
            · have hP := hP.1 h83012
              refine V_iload X dX1_addPart_129 0 rfl ?_
              refine V_iconst X (v := (1 : Int32)) dX1_addPart_131 (by decide) ?_
              refine V_icmp_ne X (tgt := 150) dX1_addPart_132 (by decide) (fun h83013 => ?_) (fun h83013 => ?_)
              · have hP := hP.1 h83013
                refine V_iload X dX1_addPart_150 0 rfl ?_
                refine V_iconst X (v := (2 : Int32)) dX1_addPart_152 (by decide) ?_
                refine V_icmp_ne X (tgt := 168) dX1_addPart_153 (by decide) (fun h83014 => ?_) (fun h83014 => ?_)
                · have hP := hP.1 h83014
                  refine V_iinc X (v := (v9 + (1 : Int32))) (lv' := [(9, .int (v9 + (1 : Int32))), (10, .int r8305), (0, .ref a0), (1, .ref a1), (2, .ref a2), (3, .int x3), (4, .ref a4), (5, .int x5), (8, .int r3)]) dX1_addPart_168 8 rfl rfl (by decide) rfl ?_
                  refine V_goto X (tgt := 83) dX1_addPart_171 (by decide) ?_
                  exact V.to [2, 3, 4, 5, 6, 7, 8, 0] rfl rfl hP
                · have hP := hP.2 h83014
                  refine V_aload_n X dX1_addPart_156 rfl 1 rfl ?_
                  refine V_aload_n X dX1_addPart_157 rfl 2 rfl ?_
                  refine V_aload_n X dX1_addPart_158 rfl 3 rfl ?_
                  refine V_iload X dX1_addPart_159 8 rfl ?_
                  refine V_aload X dX1_addPart_161 5 rfl ?_
                  refine V_iload X dX1_addPart_163 6 rfl ?_
                  obtain ⟨h83015, hP⟩ := hP
                  refine V_callV_v X [.ref a1, .ref a2, .int v9, .ref a4, .int x5] kw_RX1_87 ki_X1_addDown ks_X1_addDown ksg_X1_addDown (hX1_addDown _ _ _ _ _ _ _ _ hP) h83015 (by decide) rfl rfl ⟨show fr + 1 ≤ fr + 1 from Nat.le_refl _, show 8 + (11 + 11) + lo ≤ lo + 39 from by omega⟩ (Nat.le_of_ble_eq_true rfl) ⟨Nat.le_of_ble_eq_true rfl, Nat.le_of_ble_eq_true rfl⟩ rfl dX1_addPart_165 (fun σ8306 hP => ?_)
                  refine V_iinc X (v := (v9 + (1 : Int32))) (lv' := [(9, .int (v9 + (1 : Int32))), (10, .int r8305), (0, .ref a0), (1, .ref a1), (2, .ref a2), (3, .int x3), (4, .ref a4), (5, .int x5), (8, .int r3)]) dX1_addPart_168 8 rfl rfl (by decide) rfl ?_
                  refine V_goto X (tgt := 83) dX1_addPart_171 (by decide) ?_
                  exact V.to [2, 3, 4, 5, 6, 7, 8, 0] rfl rfl hP
              · have hP := hP.2 h83013
                refine V_aload_n X dX1_addPart_135 rfl 1 rfl ?_
                refine V_aload_n X dX1_addPart_136 rfl 2 rfl ?_
                refine V_aload_n X dX1_addPart_137 rfl 3 rfl ?_
                refine V_iload X dX1_addPart_138 8 rfl ?_
                refine V_aload X dX1_addPart_140 5 rfl ?_
                refine V_iload X dX1_addPart_142 6 rfl ?_
                obtain ⟨h83016, hP⟩ := hP
                refine V_callV_v X [.ref a1, .ref a2, .int v9, .ref a4, .int x5] kw_RX1_84 ki_X1_addUp ks_X1_addUp ksg_X1_addUp (hX1_addUp _ _ _ _ _ _ _ _ hP) h83016 (by decide) rfl rfl ⟨show fr + 1 ≤ fr + 1 from Nat.le_refl _, show 8 + (8 + 11) + lo ≤ lo + 39 from by omega⟩ (Nat.le_of_ble_eq_true rfl) ⟨Nat.le_of_ble_eq_true rfl, Nat.le_of_ble_eq_true rfl⟩ rfl dX1_addPart_144 (fun σ8307 hP => ?_)
                refine V_goto X (tgt := 168) dX1_addPart_147 (by decide) ?_
                refine V_iinc X (v := (v9 + (1 : Int32))) (lv' := [(9, .int (v9 + (1 : Int32))), (10, .int r8305), (0, .ref a0), (1, .ref a1), (2, .ref a2), (3, .int x3), (4, .ref a4), (5, .int x5), (8, .int r3)]) dX1_addPart_168 8 rfl rfl (by decide) rfl ?_
                refine V_goto X (tgt := 83) dX1_addPart_171 (by decide) ?_
                exact V.to [2, 3, 4, 5, 6, 7, 8, 0] rfl rfl hP
            · have hP := hP.2 h83012
              refine V_aload_n X dX1_addPart_117 rfl 1 rfl ?_
              refine V_aload X dX1_addPart_118 5 rfl ?_
              obtain ⟨h83017, hP⟩ := hP
              refine V_geti X kf_RX1_81 rfl h83017 dX1_addPart_120 ?_
              obtain ⟨h83018, hP⟩ := hP
              refine V_callV_v X [.int (gi σ8305 a4 2)] kw_RX1_67 ki_X1_add ks_X1_add ksg_X1_add (m_X1_add l G N0 _ _ _ _ hP) h83018 (by decide) rfl rfl ⟨show 0 + 1 ≤ fr + 1 from by omega, show 8 + (2 + 11) + 0 ≤ lo + 39 from by omega⟩ (Nat.le_of_ble_eq_true rfl) ⟨Nat.le_of_ble_eq_true rfl, Nat.le_of_ble_eq_true rfl⟩ rfl dX1_addPart_123 (fun σ8308 hP => ?_)
              refine V_goto X (tgt := 168) dX1_addPart_126 (by decide) ?_
              refine V_iinc X (v := (v9 + (1 : Int32))) (lv' := [(9, .int (v9 + (1 : Int32))), (10, .int r8305), (0, .ref a0), (1, .ref a1), (2, .ref a2), (3, .int x3), (4, .ref a4), (5, .int x5), (8, .int r3)]) dX1_addPart_168 8 rfl rfl (by decide) rfl ?_
              refine V_goto X (tgt := 83) dX1_addPart_171 (by decide) ?_
              exact V.to [2, 3, 4, 5, 6, 7, 8, 0] rfl rfl hP
      · have hP := hP.2 h6
        refine V_aload_n X dX1_addPart_36 rfl 1 rfl ?_
        refine V_sipush X (v := (20000 : Int32)) dX1_addPart_37 (by decide) ?_
        refine V_aload X dX1_addPart_40 5 rfl ?_
        refine V_geti X kf_RX1_64 rfl h4 dX1_addPart_42 ?_
        refine V_iadd X dX1_addPart_45 ?_
        refine V_callV_v X [.int ((20000 : Int32) + (gi σ1 a4 0))] kw_RX1_67 ki_X1_add ks_X1_add ksg_X1_add (m_X1_add l G N0 _ _ _ _ hP) h5 (by decide) rfl rfl ⟨show 0 + 1 ≤ fr + 1 from by omega, show 8 + (2 + 11) + 0 ≤ lo + 39 from by omega⟩ (Nat.le_of_ble_eq_true rfl) ⟨Nat.le_of_ble_eq_true rfl, Nat.le_of_ble_eq_true rfl⟩ rfl dX1_addPart_46 (fun σ5 hP => ?_)
        exact V_vret X hr (Nat.le_of_ble_eq_true rfl) (Nat.le_of_ble_eq_true rfl) dX1_addPart_49 ⟨rfl, hP⟩
    · have hP := hP.2 h3
      exact V_vret X hr (Nat.le_of_ble_eq_true rfl) (Nat.le_of_ble_eq_true rfl) dX1_addPart_14 ⟨rfl, hP⟩
def F_X1_addDown_23 (P_X1_addPart : Nat → Nat → Nat → Int32 → Nat → Int32 → Hp → (Hp → Prop) → Prop) (a0 : Nat) (a1 : Nat) (a2 : Nat) (a4 : Nat) (x5 : Int32) (u6 : Int32) (u7 : Int32) (u8 : Int32) (post : Hp → Prop) (I23 : Int32 → Hp → Prop) (v9 : Int32) (σ23 : Hp) : Prop :=
  (u8 ≤ v9 → post σ23) ∧ (¬ (u8 ≤ v9) → gk σ23 a0 = some (1, 0) ∧ P_X1_isFull a0 σ23 (fun (r2301 : Int32) (σ2301 : Hp) => (¬ r2301 = 0 → post σ2301) ∧ (r2301 = 0 → gk σ2301 a2 = some (5, 0) ∧ P_X5_standing a2 v9 σ2301 (fun (r2302 : Option Nat) (σ2302 : Hp) => (r2302 = none → I23 (v9 + (1 : Int32)) σ2302) ∧ (∀ b2303 : Nat, r2302 = some b2303 → gk σ2302 b2303 = some (4, 0) ∧ gk σ2302 a1 = some (6, 0) ∧ P_X6_tableOf a1 u6 σ2302 (fun (r2304 : Int32) (σ2304 : Hp) => (¬ (gi σ2302 b2303 1) = r2304 → I23 (v9 + (1 : Int32)) σ2304) ∧ ((gi σ2302 b2303 1) = r2304 → gk σ2304 b2303 = some (4, 0) ∧ P_X4_referenceBy b2303 u7 σ2304 (fun (r2305 : Int32) (σ2305 : Hp) => gk σ2305 a4 = some (4, 0) ∧ (¬ r2305 = (gi σ2305 a4 0) → I23 (v9 + (1 : Int32)) σ2305) ∧ (r2305 = (gi σ2305 a4 0) → gk σ2305 a0 = some (1, 0) ∧ P_X1_addPart a0 a1 a2 u6 b2303 (x5 + (1 : Int32)) σ2305 (fun (σ2306 : Hp) => I23 (v9 + (1 : Int32)) σ2306))))))))))
def O_X1_addDown (P_X1_addPart : Nat → Nat → Nat → Int32 → Nat → Int32 → Hp → (Hp → Prop) → Prop) (a0 : Nat) (a1 : Nat) (a2 : Nat) (x3 : Int32) (a4 : Nat) (x5 : Int32) (σ : Hp) (post : Hp → Prop) : Prop :=
  gk σ a1 = some (6, 0) ∧ P_X6_partWithin a1 x3 σ (fun (r1 : Int32) (σ1 : Hp) => gk σ1 a1 = some (6, 0) ∧ P_X6_referenceOf a1 x3 σ1 (fun (r2 : Int32) (σ2 : Hp) => gk σ2 a2 = some (5, 0) ∧ P_X5_known a2 σ2 (fun (r3 : Int32) (σ3 : Hp) => lfp1 (F_X1_addDown_23 P_X1_addPart a0 a1 a2 a4 x5 r1 r2 r3 post) (0 : Int32) σ3)))
set_option maxHeartbeats 2000000 in
set_option maxRecDepth 100000 in
theorem mO_X1_addDown (l : Launch) (G : GG) (N0 : Nat) {fr lo : Nat} (hfr : 20 ≤ fr) (hlo : 400 ≤ lo) (P_X1_addPart : Nat → Nat → Nat → Int32 → Nat → Int32 → Hp → (Hp → Prop) → Prop) (hX1_addPart : ∀ (a0 : Nat) (a1 : Nat) (a2 : Nat) (x3 : Int32) (a4 : Nat) (x5 : Int32) (σ : Hp) (post : Hp → Prop), P_X1_addPart a0 a1 a2 x3 a4 x5 σ post → MM l G N0 yX1_addPart cX1_addPart 11 none fr lo 0 0 [.ref a0, .ref a1, .ref a2, .int x3, .ref a4, .int x5] σ (pV post)) (a0 : Nat) (a1 : Nat) (a2 : Nat) (x3 : Int32) (a4 : Nat) (x5 : Int32) (σ : Hp) (post : Hp → Prop) (hP : O_X1_addDown P_X1_addPart a0 a1 a2 x3 a4 x5 σ post) : MM l G N0 yX1_addDown cX1_addDown 11 none (fr + 1) (lo + 39) 0 0 [.ref a0, .ref a1, .ref a2, .int x3, .ref a4, .int x5] σ (pV post) := by
  refine MM.of (by decide) (Nat.le_of_ble_eq_true rfl) ?_
  intro p e s m args below meth c X hr hnm
  refine V.to (lv2 := [(0, .ref a0), (1, .ref a1), (2, .ref a2), (3, .int x3), (4, .ref a4), (5, .int x5)]) [0, 1, 2, 3, 4, 5] rfl rfl ?_
  unfold O_X1_addDown at hP
  refine V_aload_n X dX1_addDown_0 rfl 1 rfl ?_
  refine V_iload_n X dX1_addDown_1 rfl 3 rfl ?_
  obtain ⟨h1, hP⟩ := hP
  refine V_callV_i X [.int x3] kw_RX1_90 ki_X6_partWithin ks_X6_partWithin ksg_X6_partWithin (m_X6_partWithin l G N0 _ _ _ _ hP) h1 (by decide) rfl rfl ⟨show 1 + 1 ≤ fr + 1 from by omega, show 8 + (2 + 11) + 21 ≤ lo + 39 from by omega⟩ (Nat.le_of_ble_eq_true rfl) ⟨Nat.le_of_ble_eq_true rfl, Nat.le_of_ble_eq_true rfl⟩ rfl dX1_addDown_2 (fun r1 σ1 hP => ?_)
  refine V_istore X (lv' := [(6, .int r1), (0, .ref a0), (1, .ref a1), (2, .ref a2), (3, .int x3), (4, .ref a4), (5, .int x5)]) dX1_addDown_5 (by decide) rfl ?_
  refine V_aload_n X dX1_addDown_7 rfl 2 rfl ?_
  refine V_iload_n X dX1_addDown_8 rfl 4 rfl ?_
  obtain ⟨h2, hP⟩ := hP
  refine V_callV_i X [.int x3] kw_RX1_93 ki_X6_referenceOf ks_X6_referenceOf ksg_X6_referenceOf (m_X6_referenceOf l G N0 _ _ _ _ hP) h2 (by decide) rfl rfl ⟨show 1 + 1 ≤ fr + 1 from by omega, show 8 + (2 + 11) + 21 ≤ lo + 39 from by omega⟩ (Nat.le_of_ble_eq_true rfl) ⟨Nat.le_of_ble_eq_true rfl, Nat.le_of_ble_eq_true rfl⟩ rfl dX1_addDown_9 (fun r2 σ2 hP => ?_)
  refine V_istore X (lv' := [(7, .int r2), (6, .int r1), (0, .ref a0), (1, .ref a1), (2, .ref a2), (3, .int x3), (4, .ref a4), (5, .int x5)]) dX1_addDown_12 (by decide) rfl ?_
  refine V_aload_n X dX1_addDown_14 rfl 4 rfl ?_
  obtain ⟨h3, hP⟩ := hP
  refine V_callV_i X [] kw_RX1_99 ki_X5_known ks_X5_known ksg_X5_known (m_X5_known l G N0 _ _ _ hP) h3 (by decide) rfl rfl ⟨show 0 + 1 ≤ fr + 1 from by omega, show 8 + (1 + 11) + 0 ≤ lo + 39 from by omega⟩ (Nat.le_of_ble_eq_true rfl) ⟨Nat.le_of_ble_eq_true rfl, Nat.le_of_ble_eq_true rfl⟩ rfl dX1_addDown_15 (fun r3 σ3 hP => ?_)
  refine V_istore X (lv' := [(8, .int r3), (7, .int r2), (6, .int r1), (0, .ref a0), (1, .ref a1), (2, .ref a2), (3, .int x3), (4, .ref a4), (5, .int x5)]) dX1_addDown_18 (by decide) rfl ?_
  refine V_iconst X (v := (0 : Int32)) dX1_addDown_20 (by decide) ?_
  refine V_istore X (lv' := [(9, .int (0 : Int32)), (8, .int r3), (7, .int r2), (6, .int r1), (0, .ref a0), (1, .ref a1), (2, .ref a2), (3, .int x3), (4, .ref a4), (5, .int x5)]) dX1_addDown_21 (by decide) rfl ?_
  refine V.to (lv2 := [(0, .ref a0), (1, .ref a1), (2, .ref a2), (4, .ref a4), (5, .int x5), (6, .int r1), (7, .int r2), (8, .int r3), (9, .int (0 : Int32))]) [4, 5, 6, 8, 9, 3, 2, 1, 0] rfl rfl ?_
  refine lfp1_use (fun v9 σ23 => V p l e { frames := fr + 1, cells := 0, slots := 0, locals := lo + 39 } s m args below meth c (MQ below (QC G N0 (pV post)) args s 0 0 (AN N0)) G N0 11 σ23 0 0 23 [(0, .ref a0), (1, .ref a1), (2, .ref a2), (4, .ref a4), (5, .int x5), (6, .int r1), (7, .int r2), (8, .int r3), (9, .int v9)] []) hP ?_
  intro v9 σ23 hP
  unfold F_X1_addDown_23 at hP
  refine V_iload X dX1_addDown_23 8 rfl ?_
  refine V_iload X dX1_addDown_25 7 rfl ?_
  refine V_icmp_ge X (tgt := 99) dX1_addDown_27 (by decide) (fun h23001 => ?_) (fun h23001 => ?_)
  · have hP := hP.1 h23001
    exact V_vret X hr (Nat.le_of_ble_eq_true rfl) (Nat.le_of_ble_eq_true rfl) dX1_addDown_99 ⟨rfl, hP⟩
  · have hP := hP.2 h23001
    refine V_aload_n X dX1_addDown_30 rfl 0 rfl ?_
    obtain ⟨h23002, hP⟩ := hP
    refine V_callV_i X [] kw_RX1_60 ki_X1_isFull ks_X1_isFull ksg_X1_isFull (m_X1_isFull l G N0 _ _ _ hP) h23002 (by decide) rfl rfl ⟨show 0 + 1 ≤ fr + 1 from by omega, show 8 + (1 + 11) + 0 ≤ lo + 39 from by omega⟩ (Nat.le_of_ble_eq_true rfl) ⟨Nat.le_of_ble_eq_true rfl, Nat.le_of_ble_eq_true rfl⟩ rfl dX1_addDown_31 (fun r2301 σ2301 hP => ?_)
    refine V_if_ne X (tgt := 99) dX1_addDown_34 (by decide) (fun h23003 => ?_) (fun h23003 => ?_)
    · have hP := hP.1 h23003
      exact V_vret X hr (Nat.le_of_ble_eq_true rfl) (Nat.le_of_ble_eq_true rfl) dX1_addDown_99 ⟨rfl, hP⟩
    · have hP := hP.2 h23003
      refine V_aload_n X dX1_addDown_37 rfl 2 rfl ?_
      refine V_iload X dX1_addDown_38 8 rfl ?_
      obtain ⟨h23004, hP⟩ := hP
      refine V_callV_r X [.int v9] kw_RX1_40 ki_X5_standing ks_X5_standing ksg_X5_standing (m_X5_standing l G N0 _ _ _ _ hP) h23004 (by decide) rfl rfl ⟨show 1 + 1 ≤ fr + 1 from by omega, show 8 + (3 + 11) + 21 ≤ lo + 39 from by omega⟩ (Nat.le_of_ble_eq_true rfl) ⟨Nat.le_of_ble_eq_true rfl, Nat.le_of_ble_eq_true rfl⟩ rfl dX1_addDown_40 (fun r2302 σ2302 hP => ?_)
      refine V_astorer X (x := r2302) (lv' := [(10, va_rf r2302), (0, .ref a0), (1, .ref a1), (2, .ref a2), (4, .ref a4), (5, .int x5), (6, .int r1), (7, .int r2), (8, .int r3), (9, .int v9)]) dX1_addDown_43 (by decide) rfl ?_
      refine V_aloadr X dX1_addDown_45 0 rfl ?_
      refine V_ifnull X (tgt := 93) dX1_addDown_47 (by decide) (fun h23005 => ?_) (fun b2303 h23005 => ?_)
      · have hP := hP.1 h23005
        refine V_iinc X (v := (v9 + (1 : Int32))) (lv' := [(9, .int (v9 + (1 : Int32))), (10, va_rf r2302), (0, .ref a0), (1, .ref a1), (2, .ref a2), (4, .ref a4), (5, .int x5), (6, .int r1), (7, .int r2), (8, .int r3)]) dX1_addDown_93 9 rfl rfl (by decide) rfl ?_
        refine V_goto X (tgt := 23) dX1_addDown_96 (by decide) ?_
        exact V.to [2, 3, 4, 5, 6, 7, 8, 9, 0] rfl rfl hP
      · have hP := hP.2 b2303 h23005
        refine V_aloadr X dX1_addDown_50 0 rfl ?_
        refine V_dr0 h23005 ?_
        obtain ⟨h23006, hP⟩ := hP
        refine V_geti X kf_RX1_46 rfl h23006 dX1_addDown_52 ?_
        refine V_aload_n X dX1_addDown_55 rfl 2 rfl ?_
        refine V_iload X dX1_addDown_56 6 rfl ?_
        obtain ⟨h23007, hP⟩ := hP
        refine V_callV_i X [.int r1] kw_RX1_51 ki_X6_tableOf ks_X6_tableOf ksg_X6_tableOf (m_X6_tableOf l G N0 _ _ _ _ hP) h23007 (by decide) rfl rfl ⟨show 0 + 1 ≤ fr + 1 from by omega, show 8 + (2 + 11) + 0 ≤ lo + 39 from by omega⟩ (Nat.le_of_ble_eq_true rfl) ⟨Nat.le_of_ble_eq_true rfl, Nat.le_of_ble_eq_true rfl⟩ rfl dX1_addDown_58 (fun r2304 σ2304 hP => ?_)
        refine V_icmp_ne X (tgt := 93) dX1_addDown_61 (by decide) (fun h23008 => ?_) (fun h23008 => ?_)
        · have hP := hP.1 h23008
          refine V_iinc X (v := (v9 + (1 : Int32))) (lv' := [(9, .int (v9 + (1 : Int32))), (10, va_rf r2302), (0, .ref a0), (1, .ref a1), (2, .ref a2), (4, .ref a4), (5, .int x5), (6, .int r1), (7, .int r2), (8, .int r3)]) dX1_addDown_93 9 rfl rfl (by decide) rfl ?_
          refine V_goto X (tgt := 23) dX1_addDown_96 (by decide) ?_
          exact V.to [2, 3, 4, 5, 6, 7, 8, 9, 0] rfl rfl hP
        · have hP := hP.2 h23008
          refine V_aloadr X dX1_addDown_64 0 rfl ?_
          refine V_iload X dX1_addDown_66 7 rfl ?_
          refine V_dr1 h23005 ?_
          obtain ⟨h23009, hP⟩ := hP
          refine V_callV_i X [.int r2] kw_RX1_96 ki_X4_referenceBy ks_X4_referenceBy ksg_X4_referenceBy (m_X4_referenceBy l G N0 _ _ _ _ hP) h23009 (by decide) rfl rfl ⟨show 0 + 1 ≤ fr + 1 from by omega, show 8 + (2 + 11) + 0 ≤ lo + 39 from by omega⟩ (Nat.le_of_ble_eq_true rfl) ⟨Nat.le_of_ble_eq_true rfl, Nat.le_of_ble_eq_true rfl⟩ rfl dX1_addDown_68 (fun r2305 σ2305 hP => ?_)
          refine V_aload X dX1_addDown_71 4 rfl ?_
          obtain ⟨h23010, hP⟩ := hP
          refine V_geti X kf_RX1_64 rfl h23010 dX1_addDown_73 ?_
          refine V_icmp_ne X (tgt := 93) dX1_addDown_76 (by decide) (fun h23011 => ?_) (fun h23011 => ?_)
          · have hP := hP.1 h23011
            refine V_iinc X (v := (v9 + (1 : Int32))) (lv' := [(9, .int (v9 + (1 : Int32))), (10, va_rf r2302), (0, .ref a0), (1, .ref a1), (2, .ref a2), (4, .ref a4), (5, .int x5), (6, .int r1), (7, .int r2), (8, .int r3)]) dX1_addDown_93 9 rfl rfl (by decide) rfl ?_
            refine V_goto X (tgt := 23) dX1_addDown_96 (by decide) ?_
            exact V.to [2, 3, 4, 5, 6, 7, 8, 9, 0] rfl rfl hP
          · have hP := hP.2 h23011
            refine V_aload_n X dX1_addDown_79 rfl 1 rfl ?_
            refine V_aload_n X dX1_addDown_80 rfl 2 rfl ?_
            refine V_aload_n X dX1_addDown_81 rfl 3 rfl ?_
            refine V_iload X dX1_addDown_82 6 rfl ?_
            refine V_aloadr X dX1_addDown_84 0 rfl ?_
            refine V_iload X dX1_addDown_86 5 rfl ?_
            refine V_iconst X (v := (1 : Int32)) dX1_addDown_88 (by decide) ?_
            refine V_iadd X dX1_addDown_89 ?_
            refine V_dr1 h23005 ?_
            obtain ⟨h23012, hP⟩ := hP
            refine V_callV_v X [.ref a1, .ref a2, .int r1, .ref b2303, .int (x5 + (1 : Int32))] kw_RX1_56 ki_X1_addPart ks_X1_addPart ksg_X1_addPart (hX1_addPart _ _ _ _ _ _ _ _ hP) h23012 (by decide) rfl rfl ⟨show fr + 1 ≤ fr + 1 from Nat.le_refl _, show 8 + (11 + 11) + lo ≤ lo + 39 from by omega⟩ (Nat.le_of_ble_eq_true rfl) ⟨Nat.le_of_ble_eq_true rfl, Nat.le_of_ble_eq_true rfl⟩ rfl dX1_addDown_90 (fun σ2306 hP => ?_)
            refine V_iinc X (v := (v9 + (1 : Int32))) (lv' := [(9, .int (v9 + (1 : Int32))), (10, va_rf r2302), (0, .ref a0), (1, .ref a1), (2, .ref a2), (4, .ref a4), (5, .int x5), (6, .int r1), (7, .int r2), (8, .int r3)]) dX1_addDown_93 9 rfl rfl (by decide) rfl ?_
            refine V_goto X (tgt := 23) dX1_addDown_96 (by decide) ?_
            exact V.to [2, 3, 4, 5, 6, 7, 8, 9, 0] rfl rfl hP
def PD_X1_addPart : Nat → Nat → Nat → Nat → Int32 → Nat → Int32 → Hp → (Hp → Prop) → Prop
  | 0 => fun _ _ _ _ _ _ _ _ => False
  | d + 1 => O_X1_addPart (O_X1_addDown (PD_X1_addPart d)) (O_X1_addUp (PD_X1_addPart d))
theorem mD_X1_addPart (l : Launch) (G : GG) (N0 : Nat) : ∀ (d : Nat) (a0 : Nat) (a1 : Nat) (a2 : Nat) (x3 : Int32) (a4 : Nat) (x5 : Int32) (σ : Hp) (post : Hp → Prop), PD_X1_addPart d a0 a1 a2 x3 a4 x5 σ post → MM l G N0 yX1_addPart cX1_addPart 11 none (20 + 2 * d) (400 + 78 * d) 0 0 [.ref a0, .ref a1, .ref a2, .int x3, .ref a4, .int x5] σ (pV post)
  | 0, _, _, _, _, _, _, _, _, h => h.elim
  | d + 1, a0, a1, a2, x3, a4, x5, σ, post, h => by
    have ih := mD_X1_addPart l G N0 d
    have h1 := mO_X1_addPart l G N0 (fr := 20 + 2 * d + 1) (lo := 400 + 78 * d + 39) (by omega) (by omega) (O_X1_addDown (PD_X1_addPart d)) (mO_X1_addDown l G N0 (fr := 20 + 2 * d) (lo := 400 + 78 * d) (by omega) (by omega) (PD_X1_addPart d) ih) (O_X1_addUp (PD_X1_addPart d)) (mO_X1_addUp l G N0 (fr := 20 + 2 * d) (lo := 400 + 78 * d) (by omega) (by omega) (PD_X1_addPart d) ih) a0 a1 a2 x3 a4 x5 σ post h
    exact h1
def P_X1_addPart : Nat → Nat → Nat → Int32 → Nat → Int32 → Hp → (Hp → Prop) → Prop := PD_X1_addPart 9
theorem m_X1_addPart (l : Launch) (G : GG) (N0 : Nat) (a0 : Nat) (a1 : Nat) (a2 : Nat) (x3 : Int32) (a4 : Nat) (x5 : Int32) (σ : Hp) (post : Hp → Prop) (hP : P_X1_addPart a0 a1 a2 x3 a4 x5 σ post) : MM l G N0 yX1_addPart cX1_addPart 11 none 38 1102 0 0 [.ref a0, .ref a1, .ref a2, .int x3, .ref a4, .int x5] σ (pV post) := mD_X1_addPart l G N0 9 a0 a1 a2 x3 a4 x5 σ post hP
def P_X1_at (a0 : Nat) (x1 : Int32) (σ : Hp) (post : Int32 → Hp → Prop) : Prop :=
  (x1 < 0 → post (-5000 : Int32) σ) ∧ (¬ (x1 < 0) → gk σ a0 = some (1, 0) ∧ ((gi σ a0 1) ≤ x1 → post (-5000 : Int32) σ) ∧ (¬ ((gi σ a0 1) ≤ x1) → ∃ b1 : Nat, (gr σ a0 0) = some b1 ∧ ∃ n2 : Nat, gk σ b1 = some (10, n2) ∧ ((Int32.ofNat n2) ≤ x1 → post (-5000 : Int32) σ) ∧ (¬ ((Int32.ofNat n2) ≤ x1) → vp_in x1 n2 ∧ post (gi σ b1 (Int32.toNatClampNeg x1)) σ)))
set_option maxHeartbeats 2000000 in
set_option maxRecDepth 100000 in
theorem m_X1_at (l : Launch) (G : GG) (N0 : Nat) (a0 : Nat) (x1 : Int32) (σ : Hp) (post : Int32 → Hp → Prop) (hP : P_X1_at a0 x1 σ post) : MM l G N0 yX1_at cX1_at 2 (some .int) (0) (0) 0 0 [.ref a0, .int x1] σ (pI post) := by
  refine MM.of (by decide) (Nat.le_of_ble_eq_true rfl) ?_
  intro p e s m args below meth c X hr hnm
  refine V.to (lv2 := [(0, .ref a0), (1, .int x1)]) [0, 1] rfl rfl ?_
  unfold P_X1_at at hP
  refine V_iload_n X dX1_at_0 rfl 1 rfl ?_
  refine V_if_lt X (tgt := 30) dX1_at_1 (by decide) (fun h1 => ?_) (fun h1 => ?_)
  · have hP := hP.1 h1
    refine V_sipush X (v := (-5000 : Int32)) dX1_at_30 (by decide) ?_
    exact V_iret X hr (Or.inl rfl) (Nat.le_of_ble_eq_true rfl) (Nat.le_of_ble_eq_true rfl) dX1_at_33 ⟨_, rfl, hP⟩
  · have hP := hP.2 h1
    refine V_iload_n X dX1_at_4 rfl 1 rfl ?_
    refine V_aload_n X dX1_at_5 rfl 0 rfl ?_
    obtain ⟨h2, hP⟩ := hP
    refine V_geti X kf_RX1_15 rfl h2 dX1_at_6 ?_
    refine V_icmp_ge X (tgt := 30) dX1_at_9 (by decide) (fun h3 => ?_) (fun h3 => ?_)
    · have hP := hP.1 h3
      refine V_sipush X (v := (-5000 : Int32)) dX1_at_30 (by decide) ?_
      exact V_iret X hr (Or.inl rfl) (Nat.le_of_ble_eq_true rfl) (Nat.le_of_ble_eq_true rfl) dX1_at_33 ⟨_, rfl, hP⟩
    · have hP := hP.2 h3
      refine V_iload_n X dX1_at_12 rfl 1 rfl ?_
      refine V_aload_n X dX1_at_13 rfl 0 rfl ?_
      refine V_getr X kf_RX1_9 rfl h2 dX1_at_14 ?_
      obtain ⟨b1, h4, hP⟩ := hP
      refine V_dr0 h4 ?_
      obtain ⟨n2, h5, hP⟩ := hP
      refine V_alen X (Or.inl rfl) h5 dX1_at_17 ?_
      refine V_icmp_ge X (tgt := 30) dX1_at_18 (by decide) (fun h6 => ?_) (fun h6 => ?_)
      · have hP := hP.1 h6
        refine V_sipush X (v := (-5000 : Int32)) dX1_at_30 (by decide) ?_
        exact V_iret X hr (Or.inl rfl) (Nat.le_of_ble_eq_true rfl) (Nat.le_of_ble_eq_true rfl) dX1_at_33 ⟨_, rfl, hP⟩
      · have hP := hP.2 h6
        refine V_aload_n X dX1_at_21 rfl 0 rfl ?_
        refine V_getr X kf_RX1_9 rfl h2 dX1_at_22 ?_
        refine V_iload_n X dX1_at_25 rfl 1 rfl ?_
        refine V_dr1 h4 ?_
        obtain ⟨h7, hP⟩ := hP
        refine V_iald X h5 h7 dX1_at_26 ?_
        refine V_goto X (tgt := 33) dX1_at_27 (by decide) ?_
        exact V_iret X hr (Or.inl rfl) (Nat.le_of_ble_eq_true rfl) (Nat.le_of_ble_eq_true rfl) dX1_at_33 ⟨_, rfl, hP⟩
def P_X1_gather (a0 : Nat) (a1 : Nat) (a2 : Nat) (x3 : Int32) (σ : Hp) (post : Hp → Prop) : Prop :=
  gk σ a0 = some (1, 0) ∧ gk σ a2 = some (5, 0) ∧ P_X5_standing a2 x3 (sl (si σ a0 1 (0 : Int32)) a0 2 (0 : Int64)) (fun (r1 : Option Nat) (σ1 : Hp) => (r1 = none → post σ1) ∧ (∀ b2 : Nat, r1 = some b2 → gk σ1 b2 = some (4, 0) ∧ gk σ1 a1 = some (6, 0) ∧ P_X6_tableOf a1 (0 : Int32) σ1 (fun (r3 : Int32) (σ3 : Hp) => (¬ (gi σ1 b2 1) = r3 → post σ3) ∧ ((gi σ1 b2 1) = r3 → gk σ3 a0 = some (1, 0) ∧ P_X1_addPart a0 a1 a2 (0 : Int32) b2 (0 : Int32) σ3 (fun (σ4 : Hp) => post σ4)))))
set_option maxHeartbeats 2000000 in
set_option maxRecDepth 100000 in
theorem m_X1_gather (l : Launch) (G : GG) (N0 : Nat) (a0 : Nat) (a1 : Nat) (a2 : Nat) (x3 : Int32) (σ : Hp) (post : Hp → Prop) (hP : P_X1_gather a0 a1 a2 x3 σ post) : MM l G N0 yX1_gather cX1_gather 5 none (39) (1132) 0 0 [.ref a0, .ref a1, .ref a2, .int x3] σ (pV post) := by
  refine MM.of (by decide) (Nat.le_of_ble_eq_true rfl) ?_
  intro p e s m args below meth c X hr hnm
  refine V.to (lv2 := [(0, .ref a0), (1, .ref a1), (2, .ref a2), (3, .int x3)]) [0, 1, 2, 3] rfl rfl ?_
  unfold P_X1_gather at hP
  refine V_aload_n X dX1_gather_0 rfl 0 rfl ?_
  refine V_iconst X (v := (0 : Int32)) dX1_gather_1 (by decide) ?_
  obtain ⟨h1, hP⟩ := hP
  refine V_puti X kf_RX1_15 (fun h => by cases h) rfl h1 (Or.inl rfl) dX1_gather_2 ?_
  refine V_aload_n X dX1_gather_5 rfl 0 rfl ?_
  refine V_lconst X (v := (0 : Int64)) dX1_gather_6 (by decide) ?_
  refine V_putl X kf_RX1_19 (fun h => by cases h) rfl h1 dX1_gather_7 ?_
  refine V_aload_n X dX1_gather_10 rfl 2 rfl ?_
  refine V_iload_n X dX1_gather_11 rfl 3 rfl ?_
  obtain ⟨h2, hP⟩ := hP
  refine V_callV_r X [.int x3] kw_RX1_40 ki_X5_standing ks_X5_standing ksg_X5_standing (m_X5_standing l G N0 _ _ _ _ hP) h2 (by decide) rfl rfl ⟨Nat.le_of_ble_eq_true rfl, Nat.le_of_ble_eq_true rfl⟩ (Nat.le_of_ble_eq_true rfl) ⟨Nat.le_of_ble_eq_true rfl, Nat.le_of_ble_eq_true rfl⟩ rfl dX1_gather_12 (fun r1 σ1 hP => ?_)
  refine V_astorer X (x := r1) (lv' := [(4, va_rf r1), (0, .ref a0), (1, .ref a1), (2, .ref a2), (3, .int x3)]) dX1_gather_15 (by decide) rfl ?_
  refine V_aloadr X dX1_gather_17 0 rfl ?_
  refine V_ifnull X (tgt := 45) dX1_gather_19 (by decide) (fun h3 => ?_) (fun b2 h3 => ?_)
  · have hP := hP.1 h3
    exact V_vret X hr (Nat.le_of_ble_eq_true rfl) (Nat.le_of_ble_eq_true rfl) dX1_gather_45 ⟨rfl, hP⟩
  · have hP := hP.2 b2 h3
    refine V_aloadr X dX1_gather_22 0 rfl ?_
    refine V_dr0 h3 ?_
    obtain ⟨h4, hP⟩ := hP
    refine V_geti X kf_RX1_46 rfl h4 dX1_gather_24 ?_
    refine V_aload_n X dX1_gather_27 rfl 2 rfl ?_
    refine V_iconst X (v := (0 : Int32)) dX1_gather_28 (by decide) ?_
    obtain ⟨h5, hP⟩ := hP
    refine V_callV_i X [.int (0 : Int32)] kw_RX1_51 ki_X6_tableOf ks_X6_tableOf ksg_X6_tableOf (m_X6_tableOf l G N0 _ _ _ _ hP) h5 (by decide) rfl rfl ⟨Nat.le_of_ble_eq_true rfl, Nat.le_of_ble_eq_true rfl⟩ (Nat.le_of_ble_eq_true rfl) ⟨Nat.le_of_ble_eq_true rfl, Nat.le_of_ble_eq_true rfl⟩ rfl dX1_gather_29 (fun r3 σ3 hP => ?_)
    refine V_icmp_ne X (tgt := 45) dX1_gather_32 (by decide) (fun h6 => ?_) (fun h6 => ?_)
    · have hP := hP.1 h6
      exact V_vret X hr (Nat.le_of_ble_eq_true rfl) (Nat.le_of_ble_eq_true rfl) dX1_gather_45 ⟨rfl, hP⟩
    · have hP := hP.2 h6
      refine V_aload_n X dX1_gather_35 rfl 1 rfl ?_
      refine V_aload_n X dX1_gather_36 rfl 2 rfl ?_
      refine V_aload_n X dX1_gather_37 rfl 3 rfl ?_
      refine V_iconst X (v := (0 : Int32)) dX1_gather_38 (by decide) ?_
      refine V_aloadr X dX1_gather_39 0 rfl ?_
      refine V_iconst X (v := (0 : Int32)) dX1_gather_41 (by decide) ?_
      refine V_dr1 h3 ?_
      obtain ⟨h7, hP⟩ := hP
      refine V_callV_v X [.ref a1, .ref a2, .int (0 : Int32), .ref b2, .int (0 : Int32)] kw_RX1_56 ki_X1_addPart ks_X1_addPart ksg_X1_addPart (m_X1_addPart l G N0 _ _ _ _ _ _ _ _ hP) h7 (by decide) rfl rfl ⟨Nat.le_of_ble_eq_true rfl, Nat.le_of_ble_eq_true rfl⟩ (Nat.le_of_ble_eq_true rfl) ⟨Nat.le_of_ble_eq_true rfl, Nat.le_of_ble_eq_true rfl⟩ rfl dX1_gather_42 (fun σ4 hP => ?_)
      exact V_vret X hr (Nat.le_of_ble_eq_true rfl) (Nat.le_of_ble_eq_true rfl) dX1_gather_45 ⟨rfl, hP⟩
def F_X1_hasMarksOf_15 (a0 : Nat) (a1 : Nat) (post : Int32 → Hp → Prop) (I15 : Int32 → Hp → Prop) (v2 : Int32) (σ15 : Hp) : Prop :=
  gk σ15 a0 = some (1, 0) ∧ ((gi σ15 a0 1) ≤ v2 → post (1 : Int32) σ15) ∧ (¬ ((gi σ15 a0 1) ≤ v2) → ((600 : Int32) ≤ v2 → post (1 : Int32) σ15) ∧ (¬ ((600 : Int32) ≤ v2) → P_X1_at a0 v2 σ15 (fun (r1501 : Int32) (σ1501 : Hp) => gk σ1501 a1 = some (1, 0) ∧ P_X1_at a1 v2 σ1501 (fun (r1502 : Int32) (σ1502 : Hp) => (r1501 = r1502 → I15 (v2 + (1 : Int32)) σ1502) ∧ (¬ (r1501 = r1502) → post (0 : Int32) σ1502)))))
def P_X1_hasMarksOf (a0 : Nat) (a1 : Nat) (σ : Hp) (post : Int32 → Hp → Prop) : Prop :=
  gk σ a0 = some (1, 0) ∧ gk σ a1 = some (1, 0) ∧ ((gi σ a0 1) = (gi σ a1 1) → lfp1 (F_X1_hasMarksOf_15 a0 a1 post) (0 : Int32) σ) ∧ (¬ ((gi σ a0 1) = (gi σ a1 1)) → post (0 : Int32) σ)
set_option maxHeartbeats 2000000 in
set_option maxRecDepth 100000 in
theorem m_X1_hasMarksOf (l : Launch) (G : GG) (N0 : Nat) (a0 : Nat) (a1 : Nat) (σ : Hp) (post : Int32 → Hp → Prop) (hP : P_X1_hasMarksOf a0 a1 σ post) : MM l G N0 yX1_hasMarksOf cX1_hasMarksOf 3 (some .boolean) (1) (21) 0 0 [.ref a0, .ref a1] σ (pI post) := by
  refine MM.of (by decide) (Nat.le_of_ble_eq_true rfl) ?_
  intro p e s m args below meth c X hr hnm
  refine V.to (lv2 := [(0, .ref a0), (1, .ref a1)]) [0, 1] rfl rfl ?_
  unfold P_X1_hasMarksOf at hP
  refine V_aload_n X dX1_hasMarksOf_0 rfl 0 rfl ?_
  obtain ⟨h1, hP⟩ := hP
  refine V_geti X kf_RX1_15 rfl h1 dX1_hasMarksOf_1 ?_
  refine V_aload_n X dX1_hasMarksOf_4 rfl 1 rfl ?_
  obtain ⟨h2, hP⟩ := hP
  refine V_geti X kf_RX1_15 rfl h2 dX1_hasMarksOf_5 ?_
  refine V_icmp_eq X (tgt := 13) dX1_hasMarksOf_8 (by decide) (fun h3 => ?_) (fun h3 => ?_)
  · have hP := hP.1 h3
    refine V_iconst X (v := (0 : Int32)) dX1_hasMarksOf_13 (by decide) ?_
    refine V_istore_n X (lv' := [(2, .int (0 : Int32)), (0, .ref a0), (1, .ref a1)]) dX1_hasMarksOf_14 rfl (by decide) rfl ?_
    refine V.to (lv2 := [(0, .ref a0), (1, .ref a1), (2, .int (0 : Int32))]) [1, 2, 0] rfl rfl ?_
    refine lfp1_use (fun v2 σ15 => V p l e { frames := 1, cells := 0, slots := 0, locals := 21 } s m args below meth c (MQ below (QC G N0 (pI post)) args s 0 0 (AN N0)) G N0 3 σ15 0 0 15 [(0, .ref a0), (1, .ref a1), (2, .int v2)] []) hP ?_
    intro v2 σ15 hP
    unfold F_X1_hasMarksOf_15 at hP
    refine V_iload_n X dX1_hasMarksOf_15 rfl 2 rfl ?_
    refine V_aload_n X dX1_hasMarksOf_16 rfl 0 rfl ?_
    obtain ⟨h15001, hP⟩ := hP
    refine V_geti X kf_RX1_15 rfl h15001 dX1_hasMarksOf_17 ?_
    refine V_icmp_ge X (tgt := 51) dX1_hasMarksOf_20 (by decide) (fun h15002 => ?_) (fun h15002 => ?_)
    · have hP := hP.1 h15002
      refine V_iconst X (v := (1 : Int32)) dX1_hasMarksOf_51 (by decide) ?_
      exact V_iret X hr (Or.inr ⟨rfl, Or.inr rfl⟩) (Nat.le_of_ble_eq_true rfl) (Nat.le_of_ble_eq_true rfl) dX1_hasMarksOf_52 ⟨_, rfl, hP⟩
    · have hP := hP.2 h15002
      refine V_iload_n X dX1_hasMarksOf_23 rfl 2 rfl ?_
      refine V_sipush X (v := (600 : Int32)) dX1_hasMarksOf_24 (by decide) ?_
      refine V_icmp_ge X (tgt := 51) dX1_hasMarksOf_27 (by decide) (fun h15003 => ?_) (fun h15003 => ?_)
      · have hP := hP.1 h15003
        refine V_iconst X (v := (1 : Int32)) dX1_hasMarksOf_51 (by decide) ?_
        exact V_iret X hr (Or.inr ⟨rfl, Or.inr rfl⟩) (Nat.le_of_ble_eq_true rfl) (Nat.le_of_ble_eq_true rfl) dX1_hasMarksOf_52 ⟨_, rfl, hP⟩
      · have hP := hP.2 h15003
        refine V_aload_n X dX1_hasMarksOf_30 rfl 0 rfl ?_
        refine V_iload_n X dX1_hasMarksOf_31 rfl 2 rfl ?_
        refine V_callV_i X [.int v2] kw_RX1_23 ki_X1_at ks_X1_at ksg_X1_at (m_X1_at l G N0 _ _ _ _ hP) h15001 (by decide) rfl rfl ⟨Nat.le_of_ble_eq_true rfl, Nat.le_of_ble_eq_true rfl⟩ (Nat.le_of_ble_eq_true rfl) ⟨Nat.le_of_ble_eq_true rfl, Nat.le_of_ble_eq_true rfl⟩ rfl dX1_hasMarksOf_32 (fun r1501 σ1501 hP => ?_)
        refine V_aload_n X dX1_hasMarksOf_35 rfl 1 rfl ?_
        refine V_iload_n X dX1_hasMarksOf_36 rfl 2 rfl ?_
        obtain ⟨h15004, hP⟩ := hP
        refine V_callV_i X [.int v2] kw_RX1_23 ki_X1_at ks_X1_at ksg_X1_at (m_X1_at l G N0 _ _ _ _ hP) h15004 (by decide) rfl rfl ⟨Nat.le_of_ble_eq_true rfl, Nat.le_of_ble_eq_true rfl⟩ (Nat.le_of_ble_eq_true rfl) ⟨Nat.le_of_ble_eq_true rfl, Nat.le_of_ble_eq_true rfl⟩ rfl dX1_hasMarksOf_37 (fun r1502 σ1502 hP => ?_)
        refine V_icmp_eq X (tgt := 45) dX1_hasMarksOf_40 (by decide) (fun h15005 => ?_) (fun h15005 => ?_)
        · have hP := hP.1 h15005
          refine V_iinc X (v := (v2 + (1 : Int32))) (lv' := [(2, .int (v2 + (1 : Int32))), (0, .ref a0), (1, .ref a1)]) dX1_hasMarksOf_45 2 rfl rfl (by decide) rfl ?_
          refine V_goto X (tgt := 15) dX1_hasMarksOf_48 (by decide) ?_
          exact V.to [1, 2, 0] rfl rfl hP
        · have hP := hP.2 h15005
          refine V_iconst X (v := (0 : Int32)) dX1_hasMarksOf_43 (by decide) ?_
          exact V_iret X hr (Or.inr ⟨rfl, Or.inl rfl⟩) (Nat.le_of_ble_eq_true rfl) (Nat.le_of_ble_eq_true rfl) dX1_hasMarksOf_44 ⟨_, rfl, hP⟩
  · have hP := hP.2 h3
    refine V_iconst X (v := (0 : Int32)) dX1_hasMarksOf_11 (by decide) ?_
    exact V_iret X hr (Or.inr ⟨rfl, Or.inl rfl⟩) (Nat.le_of_ble_eq_true rfl) (Nat.le_of_ble_eq_true rfl) dX1_hasMarksOf_12 ⟨_, rfl, hP⟩
def P_X1_init (a0 : Nat) (σ : Hp) (post : Hp → Prop) : Prop :=
  ∀ q1 : Nat, gk σ q1 = none → gk (nw σ q1 10 600) a0 = some (1, 0) ∧ post (sl (si (sr (nw σ q1 10 600) a0 0 (some q1)) a0 1 (0 : Int32)) a0 2 (0 : Int64))
set_option maxHeartbeats 2000000 in
set_option maxRecDepth 100000 in
theorem m_X1_init (l : Launch) (G : GG) (N0 : Nat) (a0 : Nat) (σ : Hp) (post : Hp → Prop) (hP : P_X1_init a0 σ post) : MM l G N0 yX1_init cX1_init 1 none (1) (20) 1 600 [.ref a0] σ (pV post) := by
  refine MM.of (by decide) (Nat.le_of_ble_eq_true rfl) ?_
  intro p e s m args below meth c X hr hnm
  refine V.to (lv2 := [(0, .ref a0)]) [0] rfl rfl ?_
  unfold P_X1_init at hP
  refine V_aload_n X dX1_init_0 rfl 0 rfl ?_
  refine V_objInit X kl_RX1_3 ko_inst ko_code (Nat.le_of_ble_eq_true rfl) ⟨Nat.le_of_ble_eq_true rfl, Nat.le_of_ble_eq_true rfl⟩ dX1_init_1 ?_
  refine V_aload_n X dX1_init_4 rfl 0 rfl ?_
  refine V_sipush X (v := (600 : Int32)) dX1_init_5 (by decide) ?_
  refine V_newi X (N := 600) ka_int (by decide) (by decide) (by decide) (Nat.le_of_ble_eq_true rfl) (Nat.le_of_ble_eq_true rfl) dX1_init_8 (fun q1 h1 => ?_)
  have hP := hP q1 h1
  have h2 : gk (nw σ q1 10 600) q1 = _ := gk_new
  obtain ⟨h3, hP⟩ := hP
  refine V_putr X (v := (some q1)) kf_RX1_9 (fun _ => ⟨hnm, rfl⟩) rfl h3 (Or.inr ⟨_, rfl⟩) dX1_init_10 ?_
  refine V_aload_n X dX1_init_13 rfl 0 rfl ?_
  refine V_iconst X (v := (0 : Int32)) dX1_init_14 (by decide) ?_
  refine V_puti X kf_RX1_15 (fun h => by cases h) rfl h3 (Or.inl rfl) dX1_init_15 ?_
  refine V_aload_n X dX1_init_18 rfl 0 rfl ?_
  refine V_lconst X (v := (0 : Int64)) dX1_init_19 (by decide) ?_
  refine V_putl X kf_RX1_19 (fun h => by cases h) rfl h3 dX1_init_20 ?_
  exact V_vret X hr (Nat.le_of_ble_eq_true rfl) (Nat.le_of_ble_eq_true rfl) dX1_init_23 ⟨rfl, hP⟩
def P_X1_isValueAt (a0 : Nat) (x1 : Int32) (σ : Hp) (post : Int32 → Hp → Prop) : Prop :=
  gk σ a0 = some (1, 0) ∧ P_X1_at a0 x1 σ (fun (r1 : Int32) (σ1 : Hp) => P_X8_isValue r1 σ1 (fun (r2 : Int32) (σ2 : Hp) => (r2 = 0 ∨ r2 = 1) ∧ post r2 σ2))
set_option maxHeartbeats 2000000 in
set_option maxRecDepth 100000 in
theorem m_X1_isValueAt (l : Launch) (G : GG) (N0 : Nat) (a0 : Nat) (x1 : Int32) (σ : Hp) (post : Int32 → Hp → Prop) (hP : P_X1_isValueAt a0 x1 σ post) : MM l G N0 yX1_isValueAt cX1_isValueAt 2 (some .boolean) (1) (21) 0 0 [.ref a0, .int x1] σ (pI post) := by
  refine MM.of (by decide) (Nat.le_of_ble_eq_true rfl) ?_
  intro p e s m args below meth c X hr hnm
  refine V.to (lv2 := [(0, .ref a0), (1, .int x1)]) [0, 1] rfl rfl ?_
  unfold P_X1_isValueAt at hP
  refine V_aload_n X dX1_isValueAt_0 rfl 0 rfl ?_
  refine V_iload_n X dX1_isValueAt_1 rfl 1 rfl ?_
  obtain ⟨h1, hP⟩ := hP
  refine V_callV_i X [.int x1] kw_RX1_23 ki_X1_at ks_X1_at ksg_X1_at (m_X1_at l G N0 _ _ _ _ hP) h1 (by decide) rfl rfl ⟨Nat.le_of_ble_eq_true rfl, Nat.le_of_ble_eq_true rfl⟩ (Nat.le_of_ble_eq_true rfl) ⟨Nat.le_of_ble_eq_true rfl, Nat.le_of_ble_eq_true rfl⟩ rfl dX1_isValueAt_2 (fun r1 σ1 hP => ?_)
  refine V_callSN_i X [.int r1] kw_RX1_27 ki_X8_isValue (m_X8_isValue l G N0 _ _ _ hP) rfl ⟨Nat.le_of_ble_eq_true rfl, Nat.le_of_ble_eq_true rfl⟩ (Nat.le_of_ble_eq_true rfl) ⟨Nat.le_of_ble_eq_true rfl, Nat.le_of_ble_eq_true rfl⟩ rfl dX1_isValueAt_5 (fun r2 σ2 hP => ?_)
  obtain ⟨h2, hP⟩ := hP
  exact V_iret X hr (Or.inr ⟨rfl, h2⟩) (Nat.le_of_ble_eq_true rfl) (Nat.le_of_ble_eq_true rfl) dX1_isValueAt_8 ⟨_, rfl, hP⟩
def P_X1_length (a0 : Nat) (σ : Hp) (post : Int32 → Hp → Prop) : Prop :=
  gk σ a0 = some (1, 0) ∧ post (gi σ a0 1) σ
set_option maxHeartbeats 2000000 in
set_option maxRecDepth 100000 in
theorem m_X1_length (l : Launch) (G : GG) (N0 : Nat) (a0 : Nat) (σ : Hp) (post : Int32 → Hp → Prop) (hP : P_X1_length a0 σ post) : MM l G N0 yX1_length cX1_length 1 (some .int) (0) (0) 0 0 [.ref a0] σ (pI post) := by
  refine MM.of (by decide) (Nat.le_of_ble_eq_true rfl) ?_
  intro p e s m args below meth c X hr hnm
  refine V.to (lv2 := [(0, .ref a0)]) [0] rfl rfl ?_
  unfold P_X1_length at hP
  refine V_aload_n X dX1_length_0 rfl 0 rfl ?_
  obtain ⟨h1, hP⟩ := hP
  refine V_geti X kf_RX1_15 rfl h1 dX1_length_1 ?_
  exact V_iret X hr (Or.inl rfl) (Nat.le_of_ble_eq_true rfl) (Nat.le_of_ble_eq_true rfl) dX1_length_4 ⟨_, rfl, hP⟩
def P_X1_put (a0 : Nat) (x1 : Int32) (x2 : Int32) (σ : Hp) (post : Hp → Prop) : Prop :=
  (x1 < 0 → post σ) ∧ (¬ (x1 < 0) → gk σ a0 = some (1, 0) ∧ ((gi σ a0 1) ≤ x1 → post σ) ∧ (¬ ((gi σ a0 1) ≤ x1) → ∃ b1 : Nat, (gr σ a0 0) = some b1 ∧ ∃ n2 : Nat, gk σ b1 = some (10, n2) ∧ ((Int32.ofNat n2) ≤ x1 → post σ) ∧ (¬ ((Int32.ofNat n2) ≤ x1) → vp_in x1 n2 ∧ post (si σ b1 (Int32.toNatClampNeg x1) x2))))
set_option maxHeartbeats 2000000 in
set_option maxRecDepth 100000 in
theorem m_X1_put (l : Launch) (G : GG) (N0 : Nat) (a0 : Nat) (x1 : Int32) (x2 : Int32) (σ : Hp) (post : Hp → Prop) (hP : P_X1_put a0 x1 x2 σ post) : MM l G N0 yX1_put cX1_put 3 none (0) (0) 0 0 [.ref a0, .int x1, .int x2] σ (pV post) := by
  refine MM.of (by decide) (Nat.le_of_ble_eq_true rfl) ?_
  intro p e s m args below meth c X hr hnm
  refine V.to (lv2 := [(0, .ref a0), (1, .int x1), (2, .int x2)]) [0, 1, 2] rfl rfl ?_
  unfold P_X1_put at hP
  refine V_iload_n X dX1_put_0 rfl 1 rfl ?_
  refine V_if_lt X (tgt := 28) dX1_put_1 (by decide) (fun h1 => ?_) (fun h1 => ?_)
  · have hP := hP.1 h1
    exact V_vret X hr (Nat.le_of_ble_eq_true rfl) (Nat.le_of_ble_eq_true rfl) dX1_put_28 ⟨rfl, hP⟩
  · have hP := hP.2 h1
    refine V_iload_n X dX1_put_4 rfl 1 rfl ?_
    refine V_aload_n X dX1_put_5 rfl 0 rfl ?_
    obtain ⟨h2, hP⟩ := hP
    refine V_geti X kf_RX1_15 rfl h2 dX1_put_6 ?_
    refine V_icmp_ge X (tgt := 28) dX1_put_9 (by decide) (fun h3 => ?_) (fun h3 => ?_)
    · have hP := hP.1 h3
      exact V_vret X hr (Nat.le_of_ble_eq_true rfl) (Nat.le_of_ble_eq_true rfl) dX1_put_28 ⟨rfl, hP⟩
    · have hP := hP.2 h3
      refine V_iload_n X dX1_put_12 rfl 1 rfl ?_
      refine V_aload_n X dX1_put_13 rfl 0 rfl ?_
      refine V_getr X kf_RX1_9 rfl h2 dX1_put_14 ?_
      obtain ⟨b1, h4, hP⟩ := hP
      refine V_dr0 h4 ?_
      obtain ⟨n2, h5, hP⟩ := hP
      refine V_alen X (Or.inl rfl) h5 dX1_put_17 ?_
      refine V_icmp_ge X (tgt := 28) dX1_put_18 (by decide) (fun h6 => ?_) (fun h6 => ?_)
      · have hP := hP.1 h6
        exact V_vret X hr (Nat.le_of_ble_eq_true rfl) (Nat.le_of_ble_eq_true rfl) dX1_put_28 ⟨rfl, hP⟩
      · have hP := hP.2 h6
        refine V_aload_n X dX1_put_21 rfl 0 rfl ?_
        refine V_getr X kf_RX1_9 rfl h2 dX1_put_22 ?_
        refine V_iload_n X dX1_put_25 rfl 1 rfl ?_
        refine V_iload_n X dX1_put_26 rfl 2 rfl ?_
        refine V_dr2 h4 ?_
        obtain ⟨h7, hP⟩ := hP
        refine V_iast X h5 h7 dX1_put_27 ?_
        exact V_vret X hr (Nat.le_of_ble_eq_true rfl) (Nat.le_of_ble_eq_true rfl) dX1_put_28 ⟨rfl, hP⟩
def F_X1_rowAround_17 (a0 : Nat) (post : Int32 → Hp → Prop) (I17 : Int32 → Int32 → Hp → Prop) (v2 : Int32) (v3 : Int32) (σ17 : Hp) : Prop :=
  (v3 < 0 → post (-1 : Int32) σ17) ∧ (¬ (v3 < 0) → gk σ17 a0 = some (1, 0) ∧ P_X1_at a0 v3 σ17 (fun (r1701 : Int32) (σ1701 : Hp) => (¬ r1701 = (30000 : Int32) → (r1701 < (10000 : Int32) → I17 v2 (v3 + (-1 : Int32)) σ1701) ∧ (¬ (r1701 < (10000 : Int32)) → ((20000 : Int32) ≤ r1701 → I17 v2 (v3 + (-1 : Int32)) σ1701) ∧ (¬ ((20000 : Int32) ≤ r1701) → (¬ v2 = 0 → I17 (v2 + (-1 : Int32)) (v3 + (-1 : Int32)) σ1701) ∧ (v2 = 0 → post (r1701 - (10000 : Int32)) σ1701)))) ∧ (r1701 = (30000 : Int32) → I17 (v2 + (1 : Int32)) (v3 + (-1 : Int32)) σ1701)))
def P_X1_rowAround (a0 : Nat) (x1 : Int32) (σ : Hp) (post : Int32 → Hp → Prop) : Prop :=
  gk σ a0 = some (1, 0) ∧ lfp2 (F_X1_rowAround_17 a0 post) (0 : Int32) ((if (gi σ a0 1) < (if x1 < (0 : Int32) then (0 : Int32) else x1) then (gi σ a0 1) else (if x1 < (0 : Int32) then (0 : Int32) else x1)) - (1 : Int32)) σ
set_option maxHeartbeats 2000000 in
set_option maxRecDepth 100000 in
theorem m_X1_rowAround (l : Launch) (G : GG) (N0 : Nat) (a0 : Nat) (x1 : Int32) (σ : Hp) (post : Int32 → Hp → Prop) (hP : P_X1_rowAround a0 x1 σ post) : MM l G N0 yX1_rowAround cX1_rowAround 5 (some .int) (1) (25) 0 0 [.ref a0, .int x1] σ (pI post) := by
  refine MM.of (by decide) (Nat.le_of_ble_eq_true rfl) ?_
  intro p e s m args below meth c X hr hnm
  refine V.to (lv2 := [(0, .ref a0), (1, .int x1)]) [0, 1] rfl rfl ?_
  unfold P_X1_rowAround at hP
  refine V_iconst X (v := (0 : Int32)) dX1_rowAround_0 (by decide) ?_
  refine V_istore_n X (lv' := [(2, .int (0 : Int32)), (0, .ref a0), (1, .int x1)]) dX1_rowAround_1 rfl (by decide) rfl ?_
  refine V_iload_n X dX1_rowAround_2 rfl 2 rfl ?_
  refine V_iconst X (v := (0 : Int32)) dX1_rowAround_3 (by decide) ?_
  refine V_mmax X kl_RX1_31 km_max_s km_ini km_max_c (Nat.le_of_ble_eq_true rfl) ⟨Nat.le_of_ble_eq_true rfl, Nat.le_of_ble_eq_true rfl⟩ ⟨Nat.le_of_ble_eq_true rfl, Nat.le_of_ble_eq_true rfl⟩ dX1_rowAround_4 ?_
  refine V_aload_n X dX1_rowAround_7 rfl 1 rfl ?_
  obtain ⟨h1, hP⟩ := hP
  refine V_geti X kf_RX1_15 rfl h1 dX1_rowAround_8 ?_
  refine V_mmin X kl_RX1_37 km_min_s km_ini km_min_c (Nat.le_of_ble_eq_true rfl) ⟨Nat.le_of_ble_eq_true rfl, Nat.le_of_ble_eq_true rfl⟩ ⟨Nat.le_of_ble_eq_true rfl, Nat.le_of_ble_eq_true rfl⟩ dX1_rowAround_11 ?_
  refine V_iconst X (v := (1 : Int32)) dX1_rowAround_14 (by decide) ?_
  refine V_isub X dX1_rowAround_15 ?_
  refine V_istore_n X (lv' := [(3, .int ((if (gi σ a0 1) < (if x1 < (0 : Int32) then (0 : Int32) else x1) then (gi σ a0 1) else (if x1 < (0 : Int32) then (0 : Int32) else x1)) - (1 : Int32))), (2, .int (0 : Int32)), (0, .ref a0), (1, .int x1)]) dX1_rowAround_16 rfl (by decide) rfl ?_
  refine V.to (lv2 := [(0, .ref a0), (2, .int (0 : Int32)), (3, .int ((if (gi σ a0 1) < (if x1 < (0 : Int32) then (0 : Int32) else x1) then (gi σ a0 1) else (if x1 < (0 : Int32) then (0 : Int32) else x1)) - (1 : Int32)))]) [2, 1, 0] rfl rfl ?_
  refine lfp2_use (fun v2 v3 σ17 => V p l e { frames := 1, cells := 0, slots := 0, locals := 25 } s m args below meth c (MQ below (QC G N0 (pI post)) args s 0 0 (AN N0)) G N0 5 σ17 0 0 17 [(0, .ref a0), (2, .int v2), (3, .int v3)] []) hP ?_
  intro v2 v3 σ17 hP
  unfold F_X1_rowAround_17 at hP
  refine V_iload_n X dX1_rowAround_17 rfl 2 rfl ?_
  refine V_if_lt X (tgt := 78) dX1_rowAround_18 (by decide) (fun h17001 => ?_) (fun h17001 => ?_)
  · have hP := hP.1 h17001
    refine V_iconst X (v := (-1 : Int32)) dX1_rowAround_78 (by decide) ?_
    exact V_iret X hr (Or.inl rfl) (Nat.le_of_ble_eq_true rfl) (Nat.le_of_ble_eq_true rfl) dX1_rowAround_79 ⟨_, rfl, hP⟩
  · have hP := hP.2 h17001
    refine V_aload_n X dX1_rowAround_21 rfl 0 rfl ?_
    refine V_iload_n X dX1_rowAround_22 rfl 2 rfl ?_
    obtain ⟨h17002, hP⟩ := hP
    refine V_callV_i X [.int v3] kw_RX1_23 ki_X1_at ks_X1_at ksg_X1_at (m_X1_at l G N0 _ _ _ _ hP) h17002 (by decide) rfl rfl ⟨Nat.le_of_ble_eq_true rfl, Nat.le_of_ble_eq_true rfl⟩ (Nat.le_of_ble_eq_true rfl) ⟨Nat.le_of_ble_eq_true rfl, Nat.le_of_ble_eq_true rfl⟩ rfl dX1_rowAround_23 (fun r1701 σ1701 hP => ?_)
    refine V_istore X (lv' := [(4, .int r1701), (0, .ref a0), (2, .int v2), (3, .int v3)]) dX1_rowAround_26 (by decide) rfl ?_
    refine V_iload X dX1_rowAround_28 0 rfl ?_
    refine V_sipush X (v := (30000 : Int32)) dX1_rowAround_30 (by decide) ?_
    refine V_icmp_ne X (tgt := 42) dX1_rowAround_33 (by decide) (fun h17003 => ?_) (fun h17003 => ?_)
    · have hP := hP.1 h17003
      refine V_iload X dX1_rowAround_42 0 rfl ?_
      refine V_sipush X (v := (10000 : Int32)) dX1_rowAround_44 (by decide) ?_
      refine V_icmp_lt X (tgt := 72) dX1_rowAround_47 (by decide) (fun h17004 => ?_) (fun h17004 => ?_)
      · have hP := hP.1 h17004
        refine V_iinc X (v := (v3 + (-1 : Int32))) (lv' := [(3, .int (v3 + (-1 : Int32))), (4, .int r1701), (0, .ref a0), (2, .int v2)]) dX1_rowAround_72 3 rfl rfl (by decide) rfl ?_
        refine V_goto X (tgt := 17) dX1_rowAround_75 (by decide) ?_
        exact V.to [2, 3, 0] rfl rfl hP
      · have hP := hP.2 h17004
        refine V_iload X dX1_rowAround_50 0 rfl ?_
        refine V_sipush X (v := (20000 : Int32)) dX1_rowAround_52 (by decide) ?_
        refine V_icmp_ge X (tgt := 72) dX1_rowAround_55 (by decide) (fun h17005 => ?_) (fun h17005 => ?_)
        · have hP := hP.1 h17005
          refine V_iinc X (v := (v3 + (-1 : Int32))) (lv' := [(3, .int (v3 + (-1 : Int32))), (4, .int r1701), (0, .ref a0), (2, .int v2)]) dX1_rowAround_72 3 rfl rfl (by decide) rfl ?_
          refine V_goto X (tgt := 17) dX1_rowAround_75 (by decide) ?_
          exact V.to [2, 3, 0] rfl rfl hP
        · have hP := hP.2 h17005
          refine V_iload_n X dX1_rowAround_58 rfl 2 rfl ?_
          refine V_if_ne X (tgt := 69) dX1_rowAround_59 (by decide) (fun h17006 => ?_) (fun h17006 => ?_)
          · have hP := hP.1 h17006
            refine V_iinc X (v := (v2 + (-1 : Int32))) (lv' := [(2, .int (v2 + (-1 : Int32))), (4, .int r1701), (0, .ref a0), (3, .int v3)]) dX1_rowAround_69 2 rfl rfl (by decide) rfl ?_
            refine V_iinc X (v := (v3 + (-1 : Int32))) (lv' := [(3, .int (v3 + (-1 : Int32))), (2, .int (v2 + (-1 : Int32))), (4, .int r1701), (0, .ref a0)]) dX1_rowAround_72 3 rfl rfl (by decide) rfl ?_
            refine V_goto X (tgt := 17) dX1_rowAround_75 (by decide) ?_
            exact V.to [3, 1, 0] rfl rfl hP
          · have hP := hP.2 h17006
            refine V_iload X dX1_rowAround_62 0 rfl ?_
            refine V_sipush X (v := (10000 : Int32)) dX1_rowAround_64 (by decide) ?_
            refine V_isub X dX1_rowAround_67 ?_
            exact V_iret X hr (Or.inl rfl) (Nat.le_of_ble_eq_true rfl) (Nat.le_of_ble_eq_true rfl) dX1_rowAround_68 ⟨_, rfl, hP⟩
    · have hP := hP.2 h17003
      refine V_iinc X (v := (v2 + (1 : Int32))) (lv' := [(2, .int (v2 + (1 : Int32))), (4, .int r1701), (0, .ref a0), (3, .int v3)]) dX1_rowAround_36 2 rfl rfl (by decide) rfl ?_
      refine V_goto X (tgt := 72) dX1_rowAround_39 (by decide) ?_
      refine V_iinc X (v := (v3 + (-1 : Int32))) (lv' := [(3, .int (v3 + (-1 : Int32))), (2, .int (v2 + (1 : Int32))), (4, .int r1701), (0, .ref a0)]) dX1_rowAround_72 3 rfl rfl (by decide) rfl ?_
      refine V_goto X (tgt := 17) dX1_rowAround_75 (by decide) ?_
      exact V.to [3, 1, 0] rfl rfl hP
def F_X1_takeFrom_10 (a0 : Nat) (a1 : Nat) (post : Hp → Prop) (I10 : Int32 → Hp → Prop) (v2 : Int32) (σ10 : Hp) : Prop :=
  gk σ10 a0 = some (1, 0) ∧ ((gi σ10 a0 1) ≤ v2 → post σ10) ∧ (¬ ((gi σ10 a0 1) ≤ v2) → ∃ b1001 : Nat, (gr σ10 a0 0) = some b1001 ∧ ∃ n1002 : Nat, gk σ10 b1001 = some (10, n1002) ∧ ((Int32.ofNat n1002) ≤ v2 → post σ10) ∧ (¬ ((Int32.ofNat n1002) ≤ v2) → gk σ10 a1 = some (1, 0) ∧ P_X1_at a1 v2 σ10 (fun (r1003 : Int32) (σ1003 : Hp) => ∃ n1004 : Nat, gk σ1003 b1001 = some (10, n1004) ∧ vp_in v2 n1004 ∧ I10 (v2 + (1 : Int32)) (si σ1003 b1001 (Int32.toNatClampNeg v2) r1003))))
def P_X1_takeFrom (a0 : Nat) (a1 : Nat) (σ : Hp) (post : Hp → Prop) : Prop :=
  gk σ a1 = some (1, 0) ∧ gk σ a0 = some (1, 0) ∧ lfp1 (F_X1_takeFrom_10 a0 a1 post) (0 : Int32) (si σ a0 1 (gi σ a1 1))
set_option maxHeartbeats 2000000 in
set_option maxRecDepth 100000 in
theorem m_X1_takeFrom (l : Launch) (G : GG) (N0 : Nat) (a0 : Nat) (a1 : Nat) (σ : Hp) (post : Hp → Prop) (hP : P_X1_takeFrom a0 a1 σ post) : MM l G N0 yX1_takeFrom cX1_takeFrom 3 none (1) (21) 0 0 [.ref a0, .ref a1] σ (pV post) := by
  refine MM.of (by decide) (Nat.le_of_ble_eq_true rfl) ?_
  intro p e s m args below meth c X hr hnm
  refine V.to (lv2 := [(0, .ref a0), (1, .ref a1)]) [0, 1] rfl rfl ?_
  unfold P_X1_takeFrom at hP
  refine V_aload_n X dX1_takeFrom_0 rfl 0 rfl ?_
  refine V_aload_n X dX1_takeFrom_1 rfl 1 rfl ?_
  obtain ⟨h1, hP⟩ := hP
  refine V_geti X kf_RX1_15 rfl h1 dX1_takeFrom_2 ?_
  obtain ⟨h2, hP⟩ := hP
  refine V_puti X kf_RX1_15 (fun h => by cases h) rfl h2 (Or.inl rfl) dX1_takeFrom_5 ?_
  refine V_iconst X (v := (0 : Int32)) dX1_takeFrom_8 (by decide) ?_
  refine V_istore_n X (lv' := [(2, .int (0 : Int32)), (0, .ref a0), (1, .ref a1)]) dX1_takeFrom_9 rfl (by decide) rfl ?_
  refine V.to (lv2 := [(0, .ref a0), (1, .ref a1), (2, .int (0 : Int32))]) [1, 2, 0] rfl rfl ?_
  refine lfp1_use (fun v2 σ10 => V p l e { frames := 1, cells := 0, slots := 0, locals := 21 } s m args below meth c (MQ below (QC G N0 (pV post)) args s 0 0 (AN N0)) G N0 3 σ10 0 0 10 [(0, .ref a0), (1, .ref a1), (2, .int v2)] []) hP ?_
  intro v2 σ10 hP
  unfold F_X1_takeFrom_10 at hP
  refine V_iload_n X dX1_takeFrom_10 rfl 2 rfl ?_
  refine V_aload_n X dX1_takeFrom_11 rfl 0 rfl ?_
  obtain ⟨h10001, hP⟩ := hP
  refine V_geti X kf_RX1_15 rfl h10001 dX1_takeFrom_12 ?_
  refine V_icmp_ge X (tgt := 44) dX1_takeFrom_15 (by decide) (fun h10002 => ?_) (fun h10002 => ?_)
  · have hP := hP.1 h10002
    exact V_vret X hr (Nat.le_of_ble_eq_true rfl) (Nat.le_of_ble_eq_true rfl) dX1_takeFrom_44 ⟨rfl, hP⟩
  · have hP := hP.2 h10002
    refine V_iload_n X dX1_takeFrom_18 rfl 2 rfl ?_
    refine V_aload_n X dX1_takeFrom_19 rfl 0 rfl ?_
    refine V_getr X kf_RX1_9 rfl h10001 dX1_takeFrom_20 ?_
    obtain ⟨b1001, h10003, hP⟩ := hP
    refine V_dr0 h10003 ?_
    obtain ⟨n1002, h10004, hP⟩ := hP
    refine V_alen X (Or.inl rfl) h10004 dX1_takeFrom_23 ?_
    refine V_icmp_ge X (tgt := 44) dX1_takeFrom_24 (by decide) (fun h10005 => ?_) (fun h10005 => ?_)
    · have hP := hP.1 h10005
      exact V_vret X hr (Nat.le_of_ble_eq_true rfl) (Nat.le_of_ble_eq_true rfl) dX1_takeFrom_44 ⟨rfl, hP⟩
    · have hP := hP.2 h10005
      refine V_aload_n X dX1_takeFrom_27 rfl 0 rfl ?_
      refine V_getr X kf_RX1_9 rfl h10001 dX1_takeFrom_28 ?_
      refine V_iload_n X dX1_takeFrom_31 rfl 2 rfl ?_
      refine V_aload_n X dX1_takeFrom_32 rfl 1 rfl ?_
      refine V_iload_n X dX1_takeFrom_33 rfl 2 rfl ?_
      obtain ⟨h10006, hP⟩ := hP
      refine V_callV_i X [.int v2] kw_RX1_23 ki_X1_at ks_X1_at ksg_X1_at (m_X1_at l G N0 _ _ _ _ hP) h10006 (by decide) rfl rfl ⟨Nat.le_of_ble_eq_true rfl, Nat.le_of_ble_eq_true rfl⟩ (by simp only [List.map_cons, vcat]; exact Nat.le_of_ble_eq_true rfl) ⟨Nat.le_of_ble_eq_true rfl, Nat.le_of_ble_eq_true rfl⟩ rfl dX1_takeFrom_34 (fun r1003 σ1003 hP => ?_)
      refine V_dr2 h10003 ?_
      obtain ⟨n1004, h10007, hP⟩ := hP
      obtain ⟨h10008, hP⟩ := hP
      refine V_iast X h10007 h10008 dX1_takeFrom_37 ?_
      refine V_iinc X (v := (v2 + (1 : Int32))) (lv' := [(2, .int (v2 + (1 : Int32))), (0, .ref a0), (1, .ref a1)]) dX1_takeFrom_38 2 rfl rfl (by decide) rfl ?_
      refine V_goto X (tgt := 10) dX1_takeFrom_41 (by decide) ?_
      exact V.to [1, 2, 0] rfl rfl hP
def P_X2_isDigit (x1 : Int32) (σ : Hp) (post : Int32 → Hp → Prop) : Prop :=
  (x1 < (48 : Int32) → post (0 : Int32) σ) ∧ (¬ (x1 < (48 : Int32)) → ((57 : Int32) < x1 → post (0 : Int32) σ) ∧ (¬ ((57 : Int32) < x1) → post (1 : Int32) σ))
set_option maxHeartbeats 2000000 in
set_option maxRecDepth 100000 in
theorem m_X2_isDigit (l : Launch) (G : GG) (N0 : Nat) (x1 : Int32) (σ : Hp) (post : Int32 → Hp → Prop) (hP : P_X2_isDigit x1 σ post) : MM l G N0 yX2_isDigit cX2_isDigit 1 (some .boolean) (0) (0) 0 0 [.int x1] σ (pI post) := by
  refine MM.of (by decide) (Nat.le_of_ble_eq_true rfl) ?_
  intro p e s m args below meth c X hr hnm
  refine V.to (lv2 := [(0, .int x1)]) [0] rfl rfl ?_
  unfold P_X2_isDigit at hP
  refine V_iload_n X dX2_isDigit_0 rfl 0 rfl ?_
  refine V_bipush X (v := (48 : Int32)) dX2_isDigit_1 (by decide) ?_
  refine V_icmp_lt X (tgt := 16) dX2_isDigit_3 (by decide) (fun h1 => ?_) (fun h1 => ?_)
  · have hP := hP.1 h1
    refine V_iconst X (v := (0 : Int32)) dX2_isDigit_16 (by decide) ?_
    exact V_iret X hr (Or.inr ⟨rfl, Or.inl rfl⟩) (Nat.le_of_ble_eq_true rfl) (Nat.le_of_ble_eq_true rfl) dX2_isDigit_17 ⟨_, rfl, hP⟩
  · have hP := hP.2 h1
    refine V_iload_n X dX2_isDigit_6 rfl 0 rfl ?_
    refine V_bipush X (v := (57 : Int32)) dX2_isDigit_7 (by decide) ?_
    refine V_icmp_gt X (tgt := 16) dX2_isDigit_9 (by decide) (fun h2 => ?_) (fun h2 => ?_)
    · have hP := hP.1 h2
      refine V_iconst X (v := (0 : Int32)) dX2_isDigit_16 (by decide) ?_
      exact V_iret X hr (Or.inr ⟨rfl, Or.inl rfl⟩) (Nat.le_of_ble_eq_true rfl) (Nat.le_of_ble_eq_true rfl) dX2_isDigit_17 ⟨_, rfl, hP⟩
    · have hP := hP.2 h2
      refine V_iconst X (v := (1 : Int32)) dX2_isDigit_12 (by decide) ?_
      refine V_goto X (tgt := 17) dX2_isDigit_13 (by decide) ?_
      exact V_iret X hr (Or.inr ⟨rfl, Or.inr rfl⟩) (Nat.le_of_ble_eq_true rfl) (Nat.le_of_ble_eq_true rfl) dX2_isDigit_17 ⟨_, rfl, hP⟩
def P_X2_isLetter (x1 : Int32) (σ : Hp) (post : Int32 → Hp → Prop) : Prop :=
  (x1 < (97 : Int32) → post (0 : Int32) σ) ∧ (¬ (x1 < (97 : Int32)) → ((122 : Int32) < x1 → post (0 : Int32) σ) ∧ (¬ ((122 : Int32) < x1) → post (1 : Int32) σ))
set_option maxHeartbeats 2000000 in
set_option maxRecDepth 100000 in
theorem m_X2_isLetter (l : Launch) (G : GG) (N0 : Nat) (x1 : Int32) (σ : Hp) (post : Int32 → Hp → Prop) (hP : P_X2_isLetter x1 σ post) : MM l G N0 yX2_isLetter cX2_isLetter 1 (some .boolean) (0) (0) 0 0 [.int x1] σ (pI post) := by
  refine MM.of (by decide) (Nat.le_of_ble_eq_true rfl) ?_
  intro p e s m args below meth c X hr hnm
  refine V.to (lv2 := [(0, .int x1)]) [0] rfl rfl ?_
  unfold P_X2_isLetter at hP
  refine V_iload_n X dX2_isLetter_0 rfl 0 rfl ?_
  refine V_bipush X (v := (97 : Int32)) dX2_isLetter_1 (by decide) ?_
  refine V_icmp_lt X (tgt := 16) dX2_isLetter_3 (by decide) (fun h1 => ?_) (fun h1 => ?_)
  · have hP := hP.1 h1
    refine V_iconst X (v := (0 : Int32)) dX2_isLetter_16 (by decide) ?_
    exact V_iret X hr (Or.inr ⟨rfl, Or.inl rfl⟩) (Nat.le_of_ble_eq_true rfl) (Nat.le_of_ble_eq_true rfl) dX2_isLetter_17 ⟨_, rfl, hP⟩
  · have hP := hP.2 h1
    refine V_iload_n X dX2_isLetter_6 rfl 0 rfl ?_
    refine V_bipush X (v := (122 : Int32)) dX2_isLetter_7 (by decide) ?_
    refine V_icmp_gt X (tgt := 16) dX2_isLetter_9 (by decide) (fun h2 => ?_) (fun h2 => ?_)
    · have hP := hP.1 h2
      refine V_iconst X (v := (0 : Int32)) dX2_isLetter_16 (by decide) ?_
      exact V_iret X hr (Or.inr ⟨rfl, Or.inl rfl⟩) (Nat.le_of_ble_eq_true rfl) (Nat.le_of_ble_eq_true rfl) dX2_isLetter_17 ⟨_, rfl, hP⟩
    · have hP := hP.2 h2
      refine V_iconst X (v := (1 : Int32)) dX2_isLetter_12 (by decide) ?_
      refine V_goto X (tgt := 17) dX2_isLetter_13 (by decide) ?_
      exact V_iret X hr (Or.inr ⟨rfl, Or.inr rfl⟩) (Nat.le_of_ble_eq_true rfl) (Nat.le_of_ble_eq_true rfl) dX2_isLetter_17 ⟨_, rfl, hP⟩
def P_X7_byteAt (a0 : Nat) (x1 : Int32) (σ : Hp) (post : Int32 → Hp → Prop) : Prop :=
  (x1 < 0 → post (-1 : Int32) σ) ∧ (¬ (x1 < 0) → gk σ a0 = some (7, 0) ∧ ((gi σ a0 1) ≤ x1 → post (-1 : Int32) σ) ∧ (¬ ((gi σ a0 1) ≤ x1) → ∃ b1 : Nat, (gr σ a0 0) = some b1 ∧ ∃ n2 : Nat, gk σ b1 = some (10, n2) ∧ ((Int32.ofNat n2) ≤ x1 → post (-1 : Int32) σ) ∧ (¬ ((Int32.ofNat n2) ≤ x1) → vp_in x1 n2 ∧ post (gi σ b1 (Int32.toNatClampNeg x1)) σ)))
set_option maxHeartbeats 2000000 in
set_option maxRecDepth 100000 in
theorem m_X7_byteAt (l : Launch) (G : GG) (N0 : Nat) (a0 : Nat) (x1 : Int32) (σ : Hp) (post : Int32 → Hp → Prop) (hP : P_X7_byteAt a0 x1 σ post) : MM l G N0 yX7_byteAt cX7_byteAt 2 (some .int) (0) (0) 0 0 [.ref a0, .int x1] σ (pI post) := by
  refine MM.of (by decide) (Nat.le_of_ble_eq_true rfl) ?_
  intro p e s m args below meth c X hr hnm
  refine V.to (lv2 := [(0, .ref a0), (1, .int x1)]) [0, 1] rfl rfl ?_
  unfold P_X7_byteAt at hP
  refine V_iload_n X dX7_byteAt_0 rfl 1 rfl ?_
  refine V_if_lt X (tgt := 30) dX7_byteAt_1 (by decide) (fun h1 => ?_) (fun h1 => ?_)
  · have hP := hP.1 h1
    refine V_iconst X (v := (-1 : Int32)) dX7_byteAt_30 (by decide) ?_
    exact V_iret X hr (Or.inl rfl) (Nat.le_of_ble_eq_true rfl) (Nat.le_of_ble_eq_true rfl) dX7_byteAt_31 ⟨_, rfl, hP⟩
  · have hP := hP.2 h1
    refine V_iload_n X dX7_byteAt_4 rfl 1 rfl ?_
    refine V_aload_n X dX7_byteAt_5 rfl 0 rfl ?_
    obtain ⟨h2, hP⟩ := hP
    refine V_geti X kf_RX7_15 rfl h2 dX7_byteAt_6 ?_
    refine V_icmp_ge X (tgt := 30) dX7_byteAt_9 (by decide) (fun h3 => ?_) (fun h3 => ?_)
    · have hP := hP.1 h3
      refine V_iconst X (v := (-1 : Int32)) dX7_byteAt_30 (by decide) ?_
      exact V_iret X hr (Or.inl rfl) (Nat.le_of_ble_eq_true rfl) (Nat.le_of_ble_eq_true rfl) dX7_byteAt_31 ⟨_, rfl, hP⟩
    · have hP := hP.2 h3
      refine V_iload_n X dX7_byteAt_12 rfl 1 rfl ?_
      refine V_aload_n X dX7_byteAt_13 rfl 0 rfl ?_
      refine V_getr X kf_RX7_9 rfl h2 dX7_byteAt_14 ?_
      obtain ⟨b1, h4, hP⟩ := hP
      refine V_dr0 h4 ?_
      obtain ⟨n2, h5, hP⟩ := hP
      refine V_alen X (Or.inl rfl) h5 dX7_byteAt_17 ?_
      refine V_icmp_ge X (tgt := 30) dX7_byteAt_18 (by decide) (fun h6 => ?_) (fun h6 => ?_)
      · have hP := hP.1 h6
        refine V_iconst X (v := (-1 : Int32)) dX7_byteAt_30 (by decide) ?_
        exact V_iret X hr (Or.inl rfl) (Nat.le_of_ble_eq_true rfl) (Nat.le_of_ble_eq_true rfl) dX7_byteAt_31 ⟨_, rfl, hP⟩
      · have hP := hP.2 h6
        refine V_aload_n X dX7_byteAt_21 rfl 0 rfl ?_
        refine V_getr X kf_RX7_9 rfl h2 dX7_byteAt_22 ?_
        refine V_iload_n X dX7_byteAt_25 rfl 1 rfl ?_
        refine V_dr1 h4 ?_
        obtain ⟨h7, hP⟩ := hP
        refine V_iald X h5 h7 dX7_byteAt_26 ?_
        refine V_goto X (tgt := 31) dX7_byteAt_27 (by decide) ?_
        exact V_iret X hr (Or.inl rfl) (Nat.le_of_ble_eq_true rfl) (Nat.le_of_ble_eq_true rfl) dX7_byteAt_31 ⟨_, rfl, hP⟩
def F_X2_advance_8 (a0 : Nat) (post : Hp → Prop) (K47 : Hp → Prop) (I8 : Hp → Prop) (σ8 : Hp) : Prop :=
  gk σ8 a0 = some (2, 0) ∧ ((200 : Int32) ≤ (gi σ8 a0 2) → K47 σ8) ∧ (¬ ((200 : Int32) ≤ (gi σ8 a0 2)) → ∃ b801 : Nat, (gr σ8 a0 0) = some b801 ∧ gk σ8 b801 = some (7, 0) ∧ P_X7_byteAt b801 (gi σ8 a0 2) σ8 (fun (r802 : Int32) (σ802 : Hp) => (¬ r802 = (32 : Int32) → K47 σ802) ∧ (r802 = (32 : Int32) → gk σ802 a0 = some (2, 0) ∧ I8 (si σ802 a0 2 ((gi σ802 a0 2) + (1 : Int32))))))
def F_X2_advance_91 (a0 : Nat) (u2 : Int32) (u3 : Int32) (post : Hp → Prop) (I91 : Hp → Prop) (σ91 : Hp) : Prop :=
  gk σ91 a0 = some (2, 0) ∧ ((200 : Int32) ≤ (gi σ91 a0 3) → post σ91) ∧ (¬ ((200 : Int32) ≤ (gi σ91 a0 3)) → (u2 = 0 → (u3 = 0 → post σ91) ∧ (¬ (u3 = 0) → ∃ b9101 : Nat, (gr σ91 a0 0) = some b9101 ∧ gk σ91 b9101 = some (7, 0) ∧ P_X7_byteAt b9101 (gi σ91 a0 3) σ91 (fun (r9102 : Int32) (σ9102 : Hp) => P_X2_isDigit r9102 σ9102 (fun (r9103 : Int32) (σ9103 : Hp) => (r9103 = 0 → post σ9103) ∧ (¬ (r9103 = 0) → gk σ9103 a0 = some (2, 0) ∧ I91 (si σ9103 a0 3 ((gi σ9103 a0 3) + (1 : Int32)))))))) ∧ (¬ (u2 = 0) → ∃ b9104 : Nat, (gr σ91 a0 0) = some b9104 ∧ gk σ91 b9104 = some (7, 0) ∧ P_X7_byteAt b9104 (gi σ91 a0 3) σ91 (fun (r9105 : Int32) (σ9105 : Hp) => P_X2_isLetter r9105 σ9105 (fun (r9106 : Int32) (σ9106 : Hp) => (¬ r9106 = 0 → gk σ9106 a0 = some (2, 0) ∧ I91 (si σ9106 a0 3 ((gi σ9106 a0 3) + (1 : Int32)))) ∧ (r9106 = 0 → (u3 = 0 → post σ9106) ∧ (¬ (u3 = 0) → gk σ9106 a0 = some (2, 0) ∧ ∃ b9107 : Nat, (gr σ9106 a0 0) = some b9107 ∧ gk σ9106 b9107 = some (7, 0) ∧ P_X7_byteAt b9107 (gi σ9106 a0 3) σ9106 (fun (r9108 : Int32) (σ9108 : Hp) => P_X2_isDigit r9108 σ9108 (fun (r9109 : Int32) (σ9109 : Hp) => (r9109 = 0 → post σ9109) ∧ (¬ (r9109 = 0) → gk σ9109 a0 = some (2, 0) ∧ I91 (si σ9109 a0 3 ((gi σ9109 a0 3) + (1 : Int32))))))))))))
def P_X2_advance (a0 : Nat) (σ : Hp) (post : Hp → Prop) : Prop :=
  gk σ a0 = some (2, 0) ∧ lfp0 (F_X2_advance_8 a0 post (fun  (σx47 : Hp) => gk σx47 a0 = some (2, 0) ∧ ∃ b1 : Nat, (gr σx47 a0 0) = some b1 ∧ gk σx47 b1 = some (7, 0) ∧ P_X7_byteAt b1 (gi σx47 a0 2) σx47 (fun (r2 : Int32) (σ2 : Hp) => (¬ r2 = (-1 : Int32) → gk σ2 a0 = some (2, 0) ∧ P_X2_isLetter r2 (si σ2 a0 3 ((gi σ2 a0 2) + (1 : Int32))) (fun (r3 : Int32) (σ3 : Hp) => P_X2_isDigit r2 σ3 (fun (r4 : Int32) (σ4 : Hp) => lfp0 (F_X2_advance_91 a0 r3 r4 post)  σ4))) ∧ (r2 = (-1 : Int32) → gk σ2 a0 = some (2, 0) ∧ P_X2_isLetter r2 (si σ2 a0 3 (gi σ2 a0 2)) (fun (r5 : Int32) (σ5 : Hp) => P_X2_isDigit r2 σ5 (fun (r6 : Int32) (σ6 : Hp) => lfp0 (F_X2_advance_91 a0 r5 r6 post)  σ6))))))  (si σ a0 2 (gi σ a0 3))
set_option maxHeartbeats 2000000 in
set_option maxRecDepth 100000 in
theorem m_X2_advance (l : Launch) (G : GG) (N0 : Nat) (a0 : Nat) (σ : Hp) (post : Hp → Prop) (hP : P_X2_advance a0 σ post) : MM l G N0 yX2_advance cX2_advance 4 none (1) (21) 0 0 [.ref a0] σ (pV post) := by
  refine MM.of (by decide) (Nat.le_of_ble_eq_true rfl) ?_
  intro p e s m args below meth c X hr hnm
  refine V.to (lv2 := [(0, .ref a0)]) [0] rfl rfl ?_
  unfold P_X2_advance at hP
  refine V_aload_n X dX2_advance_0 rfl 0 rfl ?_
  refine V_aload_n X dX2_advance_1 rfl 0 rfl ?_
  obtain ⟨h1, hP⟩ := hP
  refine V_geti X kf_RX2_15 rfl h1 dX2_advance_2 ?_
  refine V_puti X kf_RX2_9 (fun h => by cases h) rfl h1 (Or.inl rfl) dX2_advance_5 ?_
  have hK47_8 : ∀ (σx47 : Hp), (gk σx47 a0 = some (2, 0) ∧ ∃ b1 : Nat, (gr σx47 a0 0) = some b1 ∧ gk σx47 b1 = some (7, 0) ∧ P_X7_byteAt b1 (gi σx47 a0 2) σx47 (fun (r2 : Int32) (σ2 : Hp) => (¬ r2 = (-1 : Int32) → gk σ2 a0 = some (2, 0) ∧ P_X2_isLetter r2 (si σ2 a0 3 ((gi σ2 a0 2) + (1 : Int32))) (fun (r3 : Int32) (σ3 : Hp) => P_X2_isDigit r2 σ3 (fun (r4 : Int32) (σ4 : Hp) => lfp0 (F_X2_advance_91 a0 r3 r4 post)  σ4))) ∧ (r2 = (-1 : Int32) → gk σ2 a0 = some (2, 0) ∧ P_X2_isLetter r2 (si σ2 a0 3 (gi σ2 a0 2)) (fun (r5 : Int32) (σ5 : Hp) => P_X2_isDigit r2 σ5 (fun (r6 : Int32) (σ6 : Hp) => lfp0 (F_X2_advance_91 a0 r5 r6 post)  σ6))))) → V p l e { frames := 1, cells := 0, slots := 0, locals := 21 } s m args below meth c (MQ below (QC G N0 (pV post)) args s 0 0 (AN N0)) G N0 4 σx47 0 0 47 [(0, .ref a0)] [] := by
    intro  σx47 hP
    refine V_aload_n X dX2_advance_47 rfl 0 rfl ?_
    obtain ⟨h2, hP⟩ := hP
    refine V_getr X kf_RX2_18 rfl h2 dX2_advance_48 ?_
    refine V_aload_n X dX2_advance_51 rfl 0 rfl ?_
    refine V_geti X kf_RX2_9 rfl h2 dX2_advance_52 ?_
    obtain ⟨b1, h3, hP⟩ := hP
    refine V_dr1 h3 ?_
    obtain ⟨h4, hP⟩ := hP
    refine V_callV_i X [.int (gi σx47 a0 2)] kw_RX2_81 ki_X7_byteAt ks_X7_byteAt ksg_X7_byteAt (m_X7_byteAt l G N0 _ _ _ _ hP) h4 (by decide) rfl rfl ⟨Nat.le_of_ble_eq_true rfl, Nat.le_of_ble_eq_true rfl⟩ (Nat.le_of_ble_eq_true rfl) ⟨Nat.le_of_ble_eq_true rfl, Nat.le_of_ble_eq_true rfl⟩ rfl dX2_advance_55 (fun r2 σ2 hP => ?_)
    refine V_istore_n X (lv' := [(1, .int r2), (0, .ref a0)]) dX2_advance_58 rfl (by decide) rfl ?_
    refine V_aload_n X dX2_advance_59 rfl 1 rfl ?_
    refine V_iload_n X dX2_advance_60 rfl 0 rfl ?_
    refine V_iconst X (v := (-1 : Int32)) dX2_advance_61 (by decide) ?_
    refine V_icmp_ne X (tgt := 72) dX2_advance_62 (by decide) (fun h5 => ?_) (fun h5 => ?_)
    · have hP := hP.1 h5
      refine V_aload_n X dX2_advance_72 rfl 1 rfl ?_
      obtain ⟨h6, hP⟩ := hP
      refine V_geti X kf_RX2_9 rfl h6 dX2_advance_73 ?_
      refine V_iconst X (v := (1 : Int32)) dX2_advance_76 (by decide) ?_
      refine V_iadd X dX2_advance_77 ?_
      refine V_puti X kf_RX2_15 (fun h => by cases h) rfl h6 (Or.inl rfl) dX2_advance_78 ?_
      refine V_iload_n X dX2_advance_81 rfl 0 rfl ?_
      refine V_callS_i X [.int r2] kw_RX2_87 ki_X2_isLetter (m_X2_isLetter l G N0 _ _ _ hP) rfl ⟨Nat.le_of_ble_eq_true rfl, Nat.le_of_ble_eq_true rfl⟩ (Nat.le_of_ble_eq_true rfl) ⟨Nat.le_of_ble_eq_true rfl, Nat.le_of_ble_eq_true rfl⟩ rfl dX2_advance_82 (fun r3 σ3 hP => ?_)
      refine V_istore_n X (lv' := [(2, .int r3), (1, .int r2), (0, .ref a0)]) dX2_advance_85 rfl (by decide) rfl ?_
      refine V_iload_n X dX2_advance_86 rfl 1 rfl ?_
      refine V_callS_i X [.int r2] kw_RX2_90 ki_X2_isDigit (m_X2_isDigit l G N0 _ _ _ hP) rfl ⟨Nat.le_of_ble_eq_true rfl, Nat.le_of_ble_eq_true rfl⟩ (Nat.le_of_ble_eq_true rfl) ⟨Nat.le_of_ble_eq_true rfl, Nat.le_of_ble_eq_true rfl⟩ rfl dX2_advance_87 (fun r4 σ4 hP => ?_)
      refine V_istore_n X (lv' := [(3, .int r4), (2, .int r3), (1, .int r2), (0, .ref a0)]) dX2_advance_90 rfl (by decide) rfl ?_
      refine V.to (lv2 := [(0, .ref a0), (2, .int r3), (3, .int r4)]) [3, 1, 0] rfl rfl ?_
      refine lfp0_use (fun  σ91 => V p l e { frames := 1, cells := 0, slots := 0, locals := 21 } s m args below meth c (MQ below (QC G N0 (pV post)) args s 0 0 (AN N0)) G N0 4 σ91 0 0 91 [(0, .ref a0), (2, .int r3), (3, .int r4)] []) hP ?_
      intro  σ91 hP
      unfold F_X2_advance_91 at hP
      refine V_aload_n X dX2_advance_91 rfl 0 rfl ?_
      obtain ⟨h91001, hP⟩ := hP
      refine V_geti X kf_RX2_15 rfl h91001 dX2_advance_92 ?_
      refine V_sipush X (v := (200 : Int32)) dX2_advance_95 (by decide) ?_
      refine V_icmp_ge X (tgt := 156) dX2_advance_98 (by decide) (fun h91002 => ?_) (fun h91002 => ?_)
      · have hP := hP.1 h91002
        exact V_vret X hr (Nat.le_of_ble_eq_true rfl) (Nat.le_of_ble_eq_true rfl) dX2_advance_156 ⟨rfl, hP⟩
      · have hP := hP.2 h91002
        refine V_iload_n X dX2_advance_101 rfl 1 rfl ?_
        refine V_if_eq X (tgt := 122) dX2_advance_102 (by decide) (fun h91003 => ?_) (fun h91003 => ?_)
        · have hP := hP.1 h91003
          refine V_iload_n X dX2_advance_122 rfl 2 rfl ?_
          refine V_if_eq X (tgt := 156) dX2_advance_123 (by decide) (fun h91004 => ?_) (fun h91004 => ?_)
          · have hP := hP.1 h91004
            exact V_vret X hr (Nat.le_of_ble_eq_true rfl) (Nat.le_of_ble_eq_true rfl) dX2_advance_156 ⟨rfl, hP⟩
          · have hP := hP.2 h91004
            refine V_aload_n X dX2_advance_126 rfl 0 rfl ?_
            refine V_getr X kf_RX2_18 rfl h91001 dX2_advance_127 ?_
            refine V_aload_n X dX2_advance_130 rfl 0 rfl ?_
            refine V_geti X kf_RX2_15 rfl h91001 dX2_advance_131 ?_
            obtain ⟨b9101, h91005, hP⟩ := hP
            refine V_dr1 h91005 ?_
            obtain ⟨h91006, hP⟩ := hP
            refine V_callV_i X [.int (gi σ91 a0 3)] kw_RX2_81 ki_X7_byteAt ks_X7_byteAt ksg_X7_byteAt (m_X7_byteAt l G N0 _ _ _ _ hP) h91006 (by decide) rfl rfl ⟨Nat.le_of_ble_eq_true rfl, Nat.le_of_ble_eq_true rfl⟩ (Nat.le_of_ble_eq_true rfl) ⟨Nat.le_of_ble_eq_true rfl, Nat.le_of_ble_eq_true rfl⟩ rfl dX2_advance_134 (fun r9102 σ9102 hP => ?_)
            refine V_callS_i X [.int r9102] kw_RX2_90 ki_X2_isDigit (m_X2_isDigit l G N0 _ _ _ hP) rfl ⟨Nat.le_of_ble_eq_true rfl, Nat.le_of_ble_eq_true rfl⟩ (Nat.le_of_ble_eq_true rfl) ⟨Nat.le_of_ble_eq_true rfl, Nat.le_of_ble_eq_true rfl⟩ rfl dX2_advance_137 (fun r9103 σ9103 hP => ?_)
            refine V_if_eq X (tgt := 156) dX2_advance_140 (by decide) (fun h91007 => ?_) (fun h91007 => ?_)
            · have hP := hP.1 h91007
              exact V_vret X hr (Nat.le_of_ble_eq_true rfl) (Nat.le_of_ble_eq_true rfl) dX2_advance_156 ⟨rfl, hP⟩
            · have hP := hP.2 h91007
              refine V_aload_n X dX2_advance_143 rfl 0 rfl ?_
              refine V_dup X dX2_advance_144 rfl ?_
              obtain ⟨h91008, hP⟩ := hP
              refine V_geti X kf_RX2_15 rfl h91008 dX2_advance_145 ?_
              refine V_iconst X (v := (1 : Int32)) dX2_advance_148 (by decide) ?_
              refine V_iadd X dX2_advance_149 ?_
              refine V_puti X kf_RX2_15 (fun h => by cases h) rfl h91008 (Or.inl rfl) dX2_advance_150 ?_
              refine V_goto X (tgt := 91) dX2_advance_153 (by decide) ?_
              exact V.to [0, 1, 2] rfl rfl hP
        · have hP := hP.2 h91003
          refine V_aload_n X dX2_advance_105 rfl 0 rfl ?_
          refine V_getr X kf_RX2_18 rfl h91001 dX2_advance_106 ?_
          refine V_aload_n X dX2_advance_109 rfl 0 rfl ?_
          refine V_geti X kf_RX2_15 rfl h91001 dX2_advance_110 ?_
          obtain ⟨b9104, h91009, hP⟩ := hP
          refine V_dr1 h91009 ?_
          obtain ⟨h91010, hP⟩ := hP
          refine V_callV_i X [.int (gi σ91 a0 3)] kw_RX2_81 ki_X7_byteAt ks_X7_byteAt ksg_X7_byteAt (m_X7_byteAt l G N0 _ _ _ _ hP) h91010 (by decide) rfl rfl ⟨Nat.le_of_ble_eq_true rfl, Nat.le_of_ble_eq_true rfl⟩ (Nat.le_of_ble_eq_true rfl) ⟨Nat.le_of_ble_eq_true rfl, Nat.le_of_ble_eq_true rfl⟩ rfl dX2_advance_113 (fun r9105 σ9105 hP => ?_)
          refine V_callS_i X [.int r9105] kw_RX2_87 ki_X2_isLetter (m_X2_isLetter l G N0 _ _ _ hP) rfl ⟨Nat.le_of_ble_eq_true rfl, Nat.le_of_ble_eq_true rfl⟩ (Nat.le_of_ble_eq_true rfl) ⟨Nat.le_of_ble_eq_true rfl, Nat.le_of_ble_eq_true rfl⟩ rfl dX2_advance_116 (fun r9106 σ9106 hP => ?_)
          refine V_if_ne X (tgt := 143) dX2_advance_119 (by decide) (fun h91011 => ?_) (fun h91011 => ?_)
          · have hP := hP.1 h91011
            refine V_aload_n X dX2_advance_143 rfl 0 rfl ?_
            refine V_dup X dX2_advance_144 rfl ?_
            obtain ⟨h91012, hP⟩ := hP
            refine V_geti X kf_RX2_15 rfl h91012 dX2_advance_145 ?_
            refine V_iconst X (v := (1 : Int32)) dX2_advance_148 (by decide) ?_
            refine V_iadd X dX2_advance_149 ?_
            refine V_puti X kf_RX2_15 (fun h => by cases h) rfl h91012 (Or.inl rfl) dX2_advance_150 ?_
            refine V_goto X (tgt := 91) dX2_advance_153 (by decide) ?_
            exact V.to [0, 1, 2] rfl rfl hP
          · have hP := hP.2 h91011
            refine V_iload_n X dX2_advance_122 rfl 2 rfl ?_
            refine V_if_eq X (tgt := 156) dX2_advance_123 (by decide) (fun h91013 => ?_) (fun h91013 => ?_)
            · have hP := hP.1 h91013
              exact V_vret X hr (Nat.le_of_ble_eq_true rfl) (Nat.le_of_ble_eq_true rfl) dX2_advance_156 ⟨rfl, hP⟩
            · have hP := hP.2 h91013
              refine V_aload_n X dX2_advance_126 rfl 0 rfl ?_
              obtain ⟨h91014, hP⟩ := hP
              refine V_getr X kf_RX2_18 rfl h91014 dX2_advance_127 ?_
              refine V_aload_n X dX2_advance_130 rfl 0 rfl ?_
              refine V_geti X kf_RX2_15 rfl h91014 dX2_advance_131 ?_
              obtain ⟨b9107, h91015, hP⟩ := hP
              refine V_dr1 h91015 ?_
              obtain ⟨h91016, hP⟩ := hP
              refine V_callV_i X [.int (gi σ9106 a0 3)] kw_RX2_81 ki_X7_byteAt ks_X7_byteAt ksg_X7_byteAt (m_X7_byteAt l G N0 _ _ _ _ hP) h91016 (by decide) rfl rfl ⟨Nat.le_of_ble_eq_true rfl, Nat.le_of_ble_eq_true rfl⟩ (Nat.le_of_ble_eq_true rfl) ⟨Nat.le_of_ble_eq_true rfl, Nat.le_of_ble_eq_true rfl⟩ rfl dX2_advance_134 (fun r9108 σ9108 hP => ?_)
              refine V_callS_i X [.int r9108] kw_RX2_90 ki_X2_isDigit (m_X2_isDigit l G N0 _ _ _ hP) rfl ⟨Nat.le_of_ble_eq_true rfl, Nat.le_of_ble_eq_true rfl⟩ (Nat.le_of_ble_eq_true rfl) ⟨Nat.le_of_ble_eq_true rfl, Nat.le_of_ble_eq_true rfl⟩ rfl dX2_advance_137 (fun r9109 σ9109 hP => ?_)
              refine V_if_eq X (tgt := 156) dX2_advance_140 (by decide) (fun h91017 => ?_) (fun h91017 => ?_)
              · have hP := hP.1 h91017
                exact V_vret X hr (Nat.le_of_ble_eq_true rfl) (Nat.le_of_ble_eq_true rfl) dX2_advance_156 ⟨rfl, hP⟩
              · have hP := hP.2 h91017
                refine V_aload_n X dX2_advance_143 rfl 0 rfl ?_
                refine V_dup X dX2_advance_144 rfl ?_
                obtain ⟨h91018, hP⟩ := hP
                refine V_geti X kf_RX2_15 rfl h91018 dX2_advance_145 ?_
                refine V_iconst X (v := (1 : Int32)) dX2_advance_148 (by decide) ?_
                refine V_iadd X dX2_advance_149 ?_
                refine V_puti X kf_RX2_15 (fun h => by cases h) rfl h91018 (Or.inl rfl) dX2_advance_150 ?_
                refine V_goto X (tgt := 91) dX2_advance_153 (by decide) ?_
                exact V.to [0, 1, 2] rfl rfl hP
    · have hP := hP.2 h5
      refine V_aload_n X dX2_advance_65 rfl 1 rfl ?_
      obtain ⟨h7, hP⟩ := hP
      refine V_geti X kf_RX2_9 rfl h7 dX2_advance_66 ?_
      refine V_goto X (tgt := 78) dX2_advance_69 (by decide) ?_
      refine V_puti X kf_RX2_15 (fun h => by cases h) rfl h7 (Or.inl rfl) dX2_advance_78 ?_
      refine V_iload_n X dX2_advance_81 rfl 0 rfl ?_
      refine V_callS_i X [.int r2] kw_RX2_87 ki_X2_isLetter (m_X2_isLetter l G N0 _ _ _ hP) rfl ⟨Nat.le_of_ble_eq_true rfl, Nat.le_of_ble_eq_true rfl⟩ (Nat.le_of_ble_eq_true rfl) ⟨Nat.le_of_ble_eq_true rfl, Nat.le_of_ble_eq_true rfl⟩ rfl dX2_advance_82 (fun r5 σ5 hP => ?_)
      refine V_istore_n X (lv' := [(2, .int r5), (1, .int r2), (0, .ref a0)]) dX2_advance_85 rfl (by decide) rfl ?_
      refine V_iload_n X dX2_advance_86 rfl 1 rfl ?_
      refine V_callS_i X [.int r2] kw_RX2_90 ki_X2_isDigit (m_X2_isDigit l G N0 _ _ _ hP) rfl ⟨Nat.le_of_ble_eq_true rfl, Nat.le_of_ble_eq_true rfl⟩ (Nat.le_of_ble_eq_true rfl) ⟨Nat.le_of_ble_eq_true rfl, Nat.le_of_ble_eq_true rfl⟩ rfl dX2_advance_87 (fun r6 σ6 hP => ?_)
      refine V_istore_n X (lv' := [(3, .int r6), (2, .int r5), (1, .int r2), (0, .ref a0)]) dX2_advance_90 rfl (by decide) rfl ?_
      refine V.to (lv2 := [(0, .ref a0), (2, .int r5), (3, .int r6)]) [3, 1, 0] rfl rfl ?_
      refine lfp0_use (fun  σ91 => V p l e { frames := 1, cells := 0, slots := 0, locals := 21 } s m args below meth c (MQ below (QC G N0 (pV post)) args s 0 0 (AN N0)) G N0 4 σ91 0 0 91 [(0, .ref a0), (2, .int r5), (3, .int r6)] []) hP ?_
      intro  σ91 hP
      unfold F_X2_advance_91 at hP
      refine V_aload_n X dX2_advance_91 rfl 0 rfl ?_
      obtain ⟨h91001, hP⟩ := hP
      refine V_geti X kf_RX2_15 rfl h91001 dX2_advance_92 ?_
      refine V_sipush X (v := (200 : Int32)) dX2_advance_95 (by decide) ?_
      refine V_icmp_ge X (tgt := 156) dX2_advance_98 (by decide) (fun h91002 => ?_) (fun h91002 => ?_)
      · have hP := hP.1 h91002
        exact V_vret X hr (Nat.le_of_ble_eq_true rfl) (Nat.le_of_ble_eq_true rfl) dX2_advance_156 ⟨rfl, hP⟩
      · have hP := hP.2 h91002
        refine V_iload_n X dX2_advance_101 rfl 1 rfl ?_
        refine V_if_eq X (tgt := 122) dX2_advance_102 (by decide) (fun h91003 => ?_) (fun h91003 => ?_)
        · have hP := hP.1 h91003
          refine V_iload_n X dX2_advance_122 rfl 2 rfl ?_
          refine V_if_eq X (tgt := 156) dX2_advance_123 (by decide) (fun h91004 => ?_) (fun h91004 => ?_)
          · have hP := hP.1 h91004
            exact V_vret X hr (Nat.le_of_ble_eq_true rfl) (Nat.le_of_ble_eq_true rfl) dX2_advance_156 ⟨rfl, hP⟩
          · have hP := hP.2 h91004
            refine V_aload_n X dX2_advance_126 rfl 0 rfl ?_
            refine V_getr X kf_RX2_18 rfl h91001 dX2_advance_127 ?_
            refine V_aload_n X dX2_advance_130 rfl 0 rfl ?_
            refine V_geti X kf_RX2_15 rfl h91001 dX2_advance_131 ?_
            obtain ⟨b9101, h91005, hP⟩ := hP
            refine V_dr1 h91005 ?_
            obtain ⟨h91006, hP⟩ := hP
            refine V_callV_i X [.int (gi σ91 a0 3)] kw_RX2_81 ki_X7_byteAt ks_X7_byteAt ksg_X7_byteAt (m_X7_byteAt l G N0 _ _ _ _ hP) h91006 (by decide) rfl rfl ⟨Nat.le_of_ble_eq_true rfl, Nat.le_of_ble_eq_true rfl⟩ (Nat.le_of_ble_eq_true rfl) ⟨Nat.le_of_ble_eq_true rfl, Nat.le_of_ble_eq_true rfl⟩ rfl dX2_advance_134 (fun r9102 σ9102 hP => ?_)
            refine V_callS_i X [.int r9102] kw_RX2_90 ki_X2_isDigit (m_X2_isDigit l G N0 _ _ _ hP) rfl ⟨Nat.le_of_ble_eq_true rfl, Nat.le_of_ble_eq_true rfl⟩ (Nat.le_of_ble_eq_true rfl) ⟨Nat.le_of_ble_eq_true rfl, Nat.le_of_ble_eq_true rfl⟩ rfl dX2_advance_137 (fun r9103 σ9103 hP => ?_)
            refine V_if_eq X (tgt := 156) dX2_advance_140 (by decide) (fun h91007 => ?_) (fun h91007 => ?_)
            · have hP := hP.1 h91007
              exact V_vret X hr (Nat.le_of_ble_eq_true rfl) (Nat.le_of_ble_eq_true rfl) dX2_advance_156 ⟨rfl, hP⟩
            · have hP := hP.2 h91007
              refine V_aload_n X dX2_advance_143 rfl 0 rfl ?_
              refine V_dup X dX2_advance_144 rfl ?_
              obtain ⟨h91008, hP⟩ := hP
              refine V_geti X kf_RX2_15 rfl h91008 dX2_advance_145 ?_
              refine V_iconst X (v := (1 : Int32)) dX2_advance_148 (by decide) ?_
              refine V_iadd X dX2_advance_149 ?_
              refine V_puti X kf_RX2_15 (fun h => by cases h) rfl h91008 (Or.inl rfl) dX2_advance_150 ?_
              refine V_goto X (tgt := 91) dX2_advance_153 (by decide) ?_
              exact V.to [0, 1, 2] rfl rfl hP
        · have hP := hP.2 h91003
          refine V_aload_n X dX2_advance_105 rfl 0 rfl ?_
          refine V_getr X kf_RX2_18 rfl h91001 dX2_advance_106 ?_
          refine V_aload_n X dX2_advance_109 rfl 0 rfl ?_
          refine V_geti X kf_RX2_15 rfl h91001 dX2_advance_110 ?_
          obtain ⟨b9104, h91009, hP⟩ := hP
          refine V_dr1 h91009 ?_
          obtain ⟨h91010, hP⟩ := hP
          refine V_callV_i X [.int (gi σ91 a0 3)] kw_RX2_81 ki_X7_byteAt ks_X7_byteAt ksg_X7_byteAt (m_X7_byteAt l G N0 _ _ _ _ hP) h91010 (by decide) rfl rfl ⟨Nat.le_of_ble_eq_true rfl, Nat.le_of_ble_eq_true rfl⟩ (Nat.le_of_ble_eq_true rfl) ⟨Nat.le_of_ble_eq_true rfl, Nat.le_of_ble_eq_true rfl⟩ rfl dX2_advance_113 (fun r9105 σ9105 hP => ?_)
          refine V_callS_i X [.int r9105] kw_RX2_87 ki_X2_isLetter (m_X2_isLetter l G N0 _ _ _ hP) rfl ⟨Nat.le_of_ble_eq_true rfl, Nat.le_of_ble_eq_true rfl⟩ (Nat.le_of_ble_eq_true rfl) ⟨Nat.le_of_ble_eq_true rfl, Nat.le_of_ble_eq_true rfl⟩ rfl dX2_advance_116 (fun r9106 σ9106 hP => ?_)
          refine V_if_ne X (tgt := 143) dX2_advance_119 (by decide) (fun h91011 => ?_) (fun h91011 => ?_)
          · have hP := hP.1 h91011
            refine V_aload_n X dX2_advance_143 rfl 0 rfl ?_
            refine V_dup X dX2_advance_144 rfl ?_
            obtain ⟨h91012, hP⟩ := hP
            refine V_geti X kf_RX2_15 rfl h91012 dX2_advance_145 ?_
            refine V_iconst X (v := (1 : Int32)) dX2_advance_148 (by decide) ?_
            refine V_iadd X dX2_advance_149 ?_
            refine V_puti X kf_RX2_15 (fun h => by cases h) rfl h91012 (Or.inl rfl) dX2_advance_150 ?_
            refine V_goto X (tgt := 91) dX2_advance_153 (by decide) ?_
            exact V.to [0, 1, 2] rfl rfl hP
          · have hP := hP.2 h91011
            refine V_iload_n X dX2_advance_122 rfl 2 rfl ?_
            refine V_if_eq X (tgt := 156) dX2_advance_123 (by decide) (fun h91013 => ?_) (fun h91013 => ?_)
            · have hP := hP.1 h91013
              exact V_vret X hr (Nat.le_of_ble_eq_true rfl) (Nat.le_of_ble_eq_true rfl) dX2_advance_156 ⟨rfl, hP⟩
            · have hP := hP.2 h91013
              refine V_aload_n X dX2_advance_126 rfl 0 rfl ?_
              obtain ⟨h91014, hP⟩ := hP
              refine V_getr X kf_RX2_18 rfl h91014 dX2_advance_127 ?_
              refine V_aload_n X dX2_advance_130 rfl 0 rfl ?_
              refine V_geti X kf_RX2_15 rfl h91014 dX2_advance_131 ?_
              obtain ⟨b9107, h91015, hP⟩ := hP
              refine V_dr1 h91015 ?_
              obtain ⟨h91016, hP⟩ := hP
              refine V_callV_i X [.int (gi σ9106 a0 3)] kw_RX2_81 ki_X7_byteAt ks_X7_byteAt ksg_X7_byteAt (m_X7_byteAt l G N0 _ _ _ _ hP) h91016 (by decide) rfl rfl ⟨Nat.le_of_ble_eq_true rfl, Nat.le_of_ble_eq_true rfl⟩ (Nat.le_of_ble_eq_true rfl) ⟨Nat.le_of_ble_eq_true rfl, Nat.le_of_ble_eq_true rfl⟩ rfl dX2_advance_134 (fun r9108 σ9108 hP => ?_)
              refine V_callS_i X [.int r9108] kw_RX2_90 ki_X2_isDigit (m_X2_isDigit l G N0 _ _ _ hP) rfl ⟨Nat.le_of_ble_eq_true rfl, Nat.le_of_ble_eq_true rfl⟩ (Nat.le_of_ble_eq_true rfl) ⟨Nat.le_of_ble_eq_true rfl, Nat.le_of_ble_eq_true rfl⟩ rfl dX2_advance_137 (fun r9109 σ9109 hP => ?_)
              refine V_if_eq X (tgt := 156) dX2_advance_140 (by decide) (fun h91017 => ?_) (fun h91017 => ?_)
              · have hP := hP.1 h91017
                exact V_vret X hr (Nat.le_of_ble_eq_true rfl) (Nat.le_of_ble_eq_true rfl) dX2_advance_156 ⟨rfl, hP⟩
              · have hP := hP.2 h91017
                refine V_aload_n X dX2_advance_143 rfl 0 rfl ?_
                refine V_dup X dX2_advance_144 rfl ?_
                obtain ⟨h91018, hP⟩ := hP
                refine V_geti X kf_RX2_15 rfl h91018 dX2_advance_145 ?_
                refine V_iconst X (v := (1 : Int32)) dX2_advance_148 (by decide) ?_
                refine V_iadd X dX2_advance_149 ?_
                refine V_puti X kf_RX2_15 (fun h => by cases h) rfl h91018 (Or.inl rfl) dX2_advance_150 ?_
                refine V_goto X (tgt := 91) dX2_advance_153 (by decide) ?_
                exact V.to [0, 1, 2] rfl rfl hP
  refine V.to (lv2 := [(0, .ref a0)]) [0] rfl rfl ?_
  refine lfp0_use (fun  σ8 => V p l e { frames := 1, cells := 0, slots := 0, locals := 21 } s m args below meth c (MQ below (QC G N0 (pV post)) args s 0 0 (AN N0)) G N0 4 σ8 0 0 8 [(0, .ref a0)] []) hP ?_
  intro  σ8 hP
  unfold F_X2_advance_8 at hP
  refine V_aload_n X dX2_advance_8 rfl 0 rfl ?_
  obtain ⟨h8001, hP⟩ := hP
  refine V_geti X kf_RX2_9 rfl h8001 dX2_advance_9 ?_
  refine V_sipush X (v := (200 : Int32)) dX2_advance_12 (by decide) ?_
  refine V_icmp_ge X (tgt := 47) dX2_advance_15 (by decide) (fun h8002 => ?_) (fun h8002 => ?_)
  · have hP := hP.1 h8002
    exact V.to [0] rfl rfl (hK47_8  _ hP)
  · have hP := hP.2 h8002
    refine V_aload_n X dX2_advance_18 rfl 0 rfl ?_
    refine V_getr X kf_RX2_18 rfl h8001 dX2_advance_19 ?_
    refine V_aload_n X dX2_advance_22 rfl 0 rfl ?_
    refine V_geti X kf_RX2_9 rfl h8001 dX2_advance_23 ?_
    obtain ⟨b801, h8003, hP⟩ := hP
    refine V_dr1 h8003 ?_
    obtain ⟨h8004, hP⟩ := hP
    refine V_callV_i X [.int (gi σ8 a0 2)] kw_RX2_81 ki_X7_byteAt ks_X7_byteAt ksg_X7_byteAt (m_X7_byteAt l G N0 _ _ _ _ hP) h8004 (by decide) rfl rfl ⟨Nat.le_of_ble_eq_true rfl, Nat.le_of_ble_eq_true rfl⟩ (Nat.le_of_ble_eq_true rfl) ⟨Nat.le_of_ble_eq_true rfl, Nat.le_of_ble_eq_true rfl⟩ rfl dX2_advance_26 (fun r802 σ802 hP => ?_)
    refine V_bipush X (v := (32 : Int32)) dX2_advance_29 (by decide) ?_
    refine V_icmp_ne X (tgt := 47) dX2_advance_31 (by decide) (fun h8005 => ?_) (fun h8005 => ?_)
    · have hP := hP.1 h8005
      exact V.to [0] rfl rfl (hK47_8  _ hP)
    · have hP := hP.2 h8005
      refine V_aload_n X dX2_advance_34 rfl 0 rfl ?_
      refine V_dup X dX2_advance_35 rfl ?_
      obtain ⟨h8006, hP⟩ := hP
      refine V_geti X kf_RX2_9 rfl h8006 dX2_advance_36 ?_
      refine V_iconst X (v := (1 : Int32)) dX2_advance_39 (by decide) ?_
      refine V_iadd X dX2_advance_40 ?_
      refine V_puti X kf_RX2_9 (fun h => by cases h) rfl h8006 (Or.inl rfl) dX2_advance_41 ?_
      refine V_goto X (tgt := 8) dX2_advance_44 (by decide) ?_
      exact V.to [0] rfl rfl hP
def P_X2_init (a0 : Nat) (a1 : Nat) (a2 : Nat) (σ : Hp) (post : Hp → Prop) : Prop :=
  gk σ a0 = some (2, 0) ∧ post (sr (sr (si (si σ a0 2 (0 : Int32)) a0 3 (0 : Int32)) a0 0 (some a1)) a0 1 (some a2))
set_option maxHeartbeats 2000000 in
set_option maxRecDepth 100000 in
theorem m_X2_init (l : Launch) (G : GG) (N0 : Nat) (a0 : Nat) (a1 : Nat) (a2 : Nat) (σ : Hp) (post : Hp → Prop) (hP : P_X2_init a0 a1 a2 σ post) : MM l G N0 yX2_init cX2_init 3 none (1) (20) 0 0 [.ref a0, .ref a1, .ref a2] σ (pV post) := by
  refine MM.of (by decide) (Nat.le_of_ble_eq_true rfl) ?_
  intro p e s m args below meth c X hr hnm
  refine V.to (lv2 := [(0, .ref a0), (1, .ref a1), (2, .ref a2)]) [0, 1, 2] rfl rfl ?_
  unfold P_X2_init at hP
  refine V_aload_n X dX2_init_0 rfl 0 rfl ?_
  refine V_objInit X kl_RX2_3 ko_inst ko_code (Nat.le_of_ble_eq_true rfl) ⟨Nat.le_of_ble_eq_true rfl, Nat.le_of_ble_eq_true rfl⟩ dX2_init_1 ?_
  refine V_aload_n X dX2_init_4 rfl 0 rfl ?_
  refine V_iconst X (v := (0 : Int32)) dX2_init_5 (by decide) ?_
  obtain ⟨h1, hP⟩ := hP
  refine V_puti X kf_RX2_9 (fun h => by cases h) rfl h1 (Or.inl rfl) dX2_init_6 ?_
  refine V_aload_n X dX2_init_9 rfl 0 rfl ?_
  refine V_iconst X (v := (0 : Int32)) dX2_init_10 (by decide) ?_
  refine V_puti X kf_RX2_15 (fun h => by cases h) rfl h1 (Or.inl rfl) dX2_init_11 ?_
  refine V_aload_n X dX2_init_14 rfl 0 rfl ?_
  refine V_aload_n X dX2_init_15 rfl 1 rfl ?_
  refine V_putr X (v := (some a1)) kf_RX2_18 (fun _ => ⟨hnm, rfl⟩) rfl h1 (Or.inl ⟨_, rfl⟩) dX2_init_16 ?_
  refine V_aload_n X dX2_init_19 rfl 0 rfl ?_
  refine V_aload_n X dX2_init_20 rfl 2 rfl ?_
  refine V_putr X (v := (some a2)) kf_RX2_22 (fun _ => ⟨hnm, rfl⟩) rfl h1 (Or.inl ⟨_, rfl⟩) dX2_init_21 ?_
  exact V_vret X hr (Nat.le_of_ble_eq_true rfl) (Nat.le_of_ble_eq_true rfl) dX2_init_24 ⟨rfl, hP⟩
def P_X7_length (a0 : Nat) (σ : Hp) (post : Int32 → Hp → Prop) : Prop :=
  gk σ a0 = some (7, 0) ∧ post (gi σ a0 1) σ
set_option maxHeartbeats 2000000 in
set_option maxRecDepth 100000 in
theorem m_X7_length (l : Launch) (G : GG) (N0 : Nat) (a0 : Nat) (σ : Hp) (post : Int32 → Hp → Prop) (hP : P_X7_length a0 σ post) : MM l G N0 yX7_length cX7_length 1 (some .int) (0) (0) 0 0 [.ref a0] σ (pI post) := by
  refine MM.of (by decide) (Nat.le_of_ble_eq_true rfl) ?_
  intro p e s m args below meth c X hr hnm
  refine V.to (lv2 := [(0, .ref a0)]) [0] rfl rfl ?_
  unfold P_X7_length at hP
  refine V_aload_n X dX7_length_0 rfl 0 rfl ?_
  obtain ⟨h1, hP⟩ := hP
  refine V_geti X kf_RX7_15 rfl h1 dX7_length_1 ?_
  exact V_iret X hr (Or.inl rfl) (Nat.le_of_ble_eq_true rfl) (Nat.le_of_ble_eq_true rfl) dX7_length_4 ⟨_, rfl, hP⟩
def P_X2_isAtEnd (a0 : Nat) (σ : Hp) (post : Int32 → Hp → Prop) : Prop :=
  gk σ a0 = some (2, 0) ∧ ∃ b1 : Nat, (gr σ a0 0) = some b1 ∧ gk σ b1 = some (7, 0) ∧ P_X7_length b1 σ (fun (r2 : Int32) (σ2 : Hp) => ((gi σ a0 2) < r2 → post (0 : Int32) σ2) ∧ (¬ ((gi σ a0 2) < r2) → post (1 : Int32) σ2))
set_option maxHeartbeats 2000000 in
set_option maxRecDepth 100000 in
theorem m_X2_isAtEnd (l : Launch) (G : GG) (N0 : Nat) (a0 : Nat) (σ : Hp) (post : Int32 → Hp → Prop) (hP : P_X2_isAtEnd a0 σ post) : MM l G N0 yX2_isAtEnd cX2_isAtEnd 1 (some .boolean) (1) (20) 0 0 [.ref a0] σ (pI post) := by
  refine MM.of (by decide) (Nat.le_of_ble_eq_true rfl) ?_
  intro p e s m args below meth c X hr hnm
  refine V.to (lv2 := [(0, .ref a0)]) [0] rfl rfl ?_
  unfold P_X2_isAtEnd at hP
  refine V_aload_n X dX2_isAtEnd_0 rfl 0 rfl ?_
  obtain ⟨h1, hP⟩ := hP
  refine V_geti X kf_RX2_9 rfl h1 dX2_isAtEnd_1 ?_
  refine V_aload_n X dX2_isAtEnd_4 rfl 0 rfl ?_
  refine V_getr X kf_RX2_18 rfl h1 dX2_isAtEnd_5 ?_
  obtain ⟨b1, h2, hP⟩ := hP
  refine V_dr0 h2 ?_
  obtain ⟨h3, hP⟩ := hP
  refine V_callV_i X [] kw_RX2_93 ki_X7_length ks_X7_length ksg_X7_length (m_X7_length l G N0 _ _ _ hP) h3 (by decide) rfl rfl ⟨Nat.le_of_ble_eq_true rfl, Nat.le_of_ble_eq_true rfl⟩ (Nat.le_of_ble_eq_true rfl) ⟨Nat.le_of_ble_eq_true rfl, Nat.le_of_ble_eq_true rfl⟩ rfl dX2_isAtEnd_8 (fun r2 σ2 hP => ?_)
  refine V_icmp_lt X (tgt := 18) dX2_isAtEnd_11 (by decide) (fun h4 => ?_) (fun h4 => ?_)
  · have hP := hP.1 h4
    refine V_iconst X (v := (0 : Int32)) dX2_isAtEnd_18 (by decide) ?_
    exact V_iret X hr (Or.inr ⟨rfl, Or.inl rfl⟩) (Nat.le_of_ble_eq_true rfl) (Nat.le_of_ble_eq_true rfl) dX2_isAtEnd_19 ⟨_, rfl, hP⟩
  · have hP := hP.2 h4
    refine V_iconst X (v := (1 : Int32)) dX2_isAtEnd_14 (by decide) ?_
    refine V_goto X (tgt := 19) dX2_isAtEnd_15 (by decide) ?_
    exact V_iret X hr (Or.inr ⟨rfl, Or.inr rfl⟩) (Nat.le_of_ble_eq_true rfl) (Nat.le_of_ble_eq_true rfl) dX2_isAtEnd_19 ⟨_, rfl, hP⟩
def P_X2_isSign (a0 : Nat) (x1 : Int32) (σ : Hp) (post : Int32 → Hp → Prop) : Prop :=
  gk σ a0 = some (2, 0) ∧ ∃ b1 : Nat, (gr σ a0 0) = some b1 ∧ gk σ b1 = some (7, 0) ∧ P_X7_byteAt b1 (gi σ a0 2) σ (fun (r2 : Int32) (σ2 : Hp) => (¬ r2 = x1 → post (0 : Int32) σ2) ∧ (r2 = x1 → post (1 : Int32) σ2))
set_option maxHeartbeats 2000000 in
set_option maxRecDepth 100000 in
theorem m_X2_isSign (l : Launch) (G : GG) (N0 : Nat) (a0 : Nat) (x1 : Int32) (σ : Hp) (post : Int32 → Hp → Prop) (hP : P_X2_isSign a0 x1 σ post) : MM l G N0 yX2_isSign cX2_isSign 2 (some .boolean) (1) (21) 0 0 [.ref a0, .int x1] σ (pI post) := by
  refine MM.of (by decide) (Nat.le_of_ble_eq_true rfl) ?_
  intro p e s m args below meth c X hr hnm
  refine V.to (lv2 := [(0, .ref a0), (1, .int x1)]) [0, 1] rfl rfl ?_
  unfold P_X2_isSign at hP
  refine V_aload_n X dX2_isSign_0 rfl 0 rfl ?_
  obtain ⟨h1, hP⟩ := hP
  refine V_getr X kf_RX2_18 rfl h1 dX2_isSign_1 ?_
  refine V_aload_n X dX2_isSign_4 rfl 0 rfl ?_
  refine V_geti X kf_RX2_9 rfl h1 dX2_isSign_5 ?_
  obtain ⟨b1, h2, hP⟩ := hP
  refine V_dr1 h2 ?_
  obtain ⟨h3, hP⟩ := hP
  refine V_callV_i X [.int (gi σ a0 2)] kw_RX2_81 ki_X7_byteAt ks_X7_byteAt ksg_X7_byteAt (m_X7_byteAt l G N0 _ _ _ _ hP) h3 (by decide) rfl rfl ⟨Nat.le_of_ble_eq_true rfl, Nat.le_of_ble_eq_true rfl⟩ (Nat.le_of_ble_eq_true rfl) ⟨Nat.le_of_ble_eq_true rfl, Nat.le_of_ble_eq_true rfl⟩ rfl dX2_isSign_8 (fun r2 σ2 hP => ?_)
  refine V_iload_n X dX2_isSign_11 rfl 1 rfl ?_
  refine V_icmp_ne X (tgt := 19) dX2_isSign_12 (by decide) (fun h4 => ?_) (fun h4 => ?_)
  · have hP := hP.1 h4
    refine V_iconst X (v := (0 : Int32)) dX2_isSign_19 (by decide) ?_
    exact V_iret X hr (Or.inr ⟨rfl, Or.inl rfl⟩) (Nat.le_of_ble_eq_true rfl) (Nat.le_of_ble_eq_true rfl) dX2_isSign_20 ⟨_, rfl, hP⟩
  · have hP := hP.2 h4
    refine V_iconst X (v := (1 : Int32)) dX2_isSign_15 (by decide) ?_
    refine V_goto X (tgt := 20) dX2_isSign_16 (by decide) ?_
    exact V_iret X hr (Or.inr ⟨rfl, Or.inr rfl⟩) (Nat.le_of_ble_eq_true rfl) (Nat.le_of_ble_eq_true rfl) dX2_isSign_20 ⟨_, rfl, hP⟩
def F_X2_isWord_20 (a0 : Nat) (w1 : Nat) (post : Int32 → Hp → Prop) (I20 : Int32 → Hp → Prop) (v2 : Int32) (σ20 : Hp) : Prop :=
  w1 < 3 ∧ ((nI (strL.getD w1 0)) ≤ v2 → post (1 : Int32) σ20) ∧ (¬ ((nI (strL.getD w1 0)) ≤ v2) → gk σ20 a0 = some (2, 0) ∧ ∃ b2002 : Nat, (gr σ20 a0 0) = some b2002 ∧ gk σ20 b2002 = some (7, 0) ∧ P_X7_byteAt b2002 ((gi σ20 a0 2) + v2) σ20 (fun (r2003 : Int32) (σ2003 : Hp) => w1 < 3 ∧ vp_in v2 (strL.getD w1 0) ∧ (r2003 = ((strB.getD w1 []).getD (Int32.toNatClampNeg v2) 0) → I20 (v2 + (1 : Int32)) σ2003) ∧ (¬ (r2003 = ((strB.getD w1 []).getD (Int32.toNatClampNeg v2) 0)) → post (0 : Int32) σ2003)))
def P_X2_isWord (a0 : Nat) (w1 : Nat) (σ : Hp) (post : Int32 → Hp → Prop) : Prop :=
  gk σ a0 = some (2, 0) ∧ w1 < 3 ∧ (((gi σ a0 3) - (gi σ a0 2)) = (nI (strL.getD w1 0)) → lfp1 (F_X2_isWord_20 a0 w1 post) (0 : Int32) σ) ∧ (¬ (((gi σ a0 3) - (gi σ a0 2)) = (nI (strL.getD w1 0))) → post (0 : Int32) σ)
set_option maxHeartbeats 2000000 in
set_option maxRecDepth 100000 in
theorem m_X2_isWord (l : Launch) (G : GG) (N0 : Nat) (a0 : Nat) (w1 : Nat) (σ : Hp) (post : Int32 → Hp → Prop) (hP : P_X2_isWord a0 w1 σ post) : MM l G N0 yX2_isWord cX2_isWord 3 (some .boolean) (8) (300) 0 0 [.ref a0, .ref (G.2.2.1 w1)] σ (pI post) := by
  refine MM.of (by decide) (Nat.le_of_ble_eq_true rfl) ?_
  intro p e s m args below meth c X hr hnm
  refine V.to (lv2 := [(0, .ref a0), (1, .ref (G.2.2.1 w1))]) [0, 1] rfl rfl ?_
  unfold P_X2_isWord at hP
  refine V_aload_n X dX2_isWord_0 rfl 0 rfl ?_
  obtain ⟨h1, hP⟩ := hP
  refine V_geti X kf_RX2_15 rfl h1 dX2_isWord_1 ?_
  refine V_aload_n X dX2_isWord_4 rfl 0 rfl ?_
  refine V_geti X kf_RX2_9 rfl h1 dX2_isWord_5 ?_
  refine V_isub X dX2_isWord_8 ?_
  refine V_aload_n X dX2_isWord_9 rfl 1 rfl ?_
  obtain ⟨h2, hP⟩ := hP
  refine V_strlen X h2 kl_RX2_96 (Nat.le_of_ble_eq_true rfl) ⟨Nat.le_of_ble_eq_true rfl, Nat.le_of_ble_eq_true rfl⟩ ⟨Nat.le_of_ble_eq_true rfl, Nat.le_of_ble_eq_true rfl⟩ dX2_isWord_10 ?_
  refine V_icmp_eq X (tgt := 18) dX2_isWord_13 (by decide) (fun h3 => ?_) (fun h3 => ?_)
  · have hP := hP.1 h3
    refine V_iconst X (v := (0 : Int32)) dX2_isWord_18 (by decide) ?_
    refine V_istore_n X (lv' := [(2, .int (0 : Int32)), (0, .ref a0), (1, .ref (G.2.2.1 w1))]) dX2_isWord_19 rfl (by decide) rfl ?_
    refine V.to (lv2 := [(0, .ref a0), (1, .ref (G.2.2.1 w1)), (2, .int (0 : Int32))]) [1, 2, 0] rfl rfl ?_
    refine lfp1_use (fun v2 σ20 => V p l e { frames := 8, cells := 0, slots := 0, locals := 300 } s m args below meth c (MQ below (QC G N0 (pI post)) args s 0 0 (AN N0)) G N0 3 σ20 0 0 20 [(0, .ref a0), (1, .ref (G.2.2.1 w1)), (2, .int v2)] []) hP ?_
    intro v2 σ20 hP
    unfold F_X2_isWord_20 at hP
    refine V_iload_n X dX2_isWord_20 rfl 2 rfl ?_
    refine V_aload_n X dX2_isWord_21 rfl 1 rfl ?_
    obtain ⟨h20001, hP⟩ := hP
    refine V_strlen X h20001 kl_RX2_96 (Nat.le_of_ble_eq_true rfl) ⟨Nat.le_of_ble_eq_true rfl, Nat.le_of_ble_eq_true rfl⟩ ⟨Nat.le_of_ble_eq_true rfl, Nat.le_of_ble_eq_true rfl⟩ dX2_isWord_22 ?_
    refine V_icmp_ge X (tgt := 57) dX2_isWord_25 (by decide) (fun h20002 => ?_) (fun h20002 => ?_)
    · have hP := hP.1 h20002
      refine V_iconst X (v := (1 : Int32)) dX2_isWord_57 (by decide) ?_
      exact V_iret X hr (Or.inr ⟨rfl, Or.inr rfl⟩) (Nat.le_of_ble_eq_true rfl) (Nat.le_of_ble_eq_true rfl) dX2_isWord_58 ⟨_, rfl, hP⟩
    · have hP := hP.2 h20002
      refine V_aload_n X dX2_isWord_28 rfl 0 rfl ?_
      obtain ⟨h20003, hP⟩ := hP
      refine V_getr X kf_RX2_18 rfl h20003 dX2_isWord_29 ?_
      refine V_aload_n X dX2_isWord_32 rfl 0 rfl ?_
      refine V_geti X kf_RX2_9 rfl h20003 dX2_isWord_33 ?_
      refine V_iload_n X dX2_isWord_36 rfl 2 rfl ?_
      refine V_iadd X dX2_isWord_37 ?_
      obtain ⟨b2002, h20004, hP⟩ := hP
      refine V_dr1 h20004 ?_
      obtain ⟨h20005, hP⟩ := hP
      refine V_callV_i X [.int ((gi σ20 a0 2) + v2)] kw_RX2_81 ki_X7_byteAt ks_X7_byteAt ksg_X7_byteAt (m_X7_byteAt l G N0 _ _ _ _ hP) h20005 (by decide) rfl rfl ⟨Nat.le_of_ble_eq_true rfl, Nat.le_of_ble_eq_true rfl⟩ (Nat.le_of_ble_eq_true rfl) ⟨Nat.le_of_ble_eq_true rfl, Nat.le_of_ble_eq_true rfl⟩ rfl dX2_isWord_38 (fun r2003 σ2003 hP => ?_)
      refine V_aload_n X dX2_isWord_41 rfl 1 rfl ?_
      refine V_iload_n X dX2_isWord_42 rfl 2 rfl ?_
      obtain ⟨h20006, hP⟩ := hP
      obtain ⟨h20007, hP⟩ := hP
      refine V_strchr X h20006 h20007 kl_RX2_99 (Nat.le_of_ble_eq_true rfl) ⟨Nat.le_of_ble_eq_true rfl, Nat.le_of_ble_eq_true rfl⟩ ⟨Nat.le_of_ble_eq_true rfl, Nat.le_of_ble_eq_true rfl⟩ dX2_isWord_43 ?_
      refine V_icmp_eq X (tgt := 51) dX2_isWord_46 (by decide) (fun h20008 => ?_) (fun h20008 => ?_)
      · have hP := hP.1 h20008
        refine V_iinc X (v := (v2 + (1 : Int32))) (lv' := [(2, .int (v2 + (1 : Int32))), (0, .ref a0), (1, .ref (G.2.2.1 w1))]) dX2_isWord_51 2 rfl rfl (by decide) rfl ?_
        refine V_goto X (tgt := 20) dX2_isWord_54 (by decide) ?_
        exact V.to [1, 2, 0] rfl rfl hP
      · have hP := hP.2 h20008
        refine V_iconst X (v := (0 : Int32)) dX2_isWord_49 (by decide) ?_
        exact V_iret X hr (Or.inr ⟨rfl, Or.inl rfl⟩) (Nat.le_of_ble_eq_true rfl) (Nat.le_of_ble_eq_true rfl) dX2_isWord_50 ⟨_, rfl, hP⟩
  · have hP := hP.2 h3
    refine V_iconst X (v := (0 : Int32)) dX2_isWord_16 (by decide) ?_
    exact V_iret X hr (Or.inr ⟨rfl, Or.inl rfl⟩) (Nat.le_of_ble_eq_true rfl) (Nat.le_of_ble_eq_true rfl) dX2_isWord_17 ⟨_, rfl, hP⟩
def P_X2_place (a0 : Nat) (σ : Hp) (post : Int32 → Hp → Prop) : Prop :=
  gk σ a0 = some (2, 0) ∧ post (gi σ a0 2) σ
set_option maxHeartbeats 2000000 in
set_option maxRecDepth 100000 in
theorem m_X2_place (l : Launch) (G : GG) (N0 : Nat) (a0 : Nat) (σ : Hp) (post : Int32 → Hp → Prop) (hP : P_X2_place a0 σ post) : MM l G N0 yX2_place cX2_place 1 (some .int) (0) (0) 0 0 [.ref a0] σ (pI post) := by
  refine MM.of (by decide) (Nat.le_of_ble_eq_true rfl) ?_
  intro p e s m args below meth c X hr hnm
  refine V.to (lv2 := [(0, .ref a0)]) [0] rfl rfl ?_
  unfold P_X2_place at hP
  refine V_aload_n X dX2_place_0 rfl 0 rfl ?_
  obtain ⟨h1, hP⟩ := hP
  refine V_geti X kf_RX2_9 rfl h1 dX2_place_1 ?_
  exact V_iret X hr (Or.inl rfl) (Nat.le_of_ble_eq_true rfl) (Nat.le_of_ble_eq_true rfl) dX2_place_4 ⟨_, rfl, hP⟩
def P_X2_tableHere (a0 : Nat) (σ : Hp) (post : Int32 → Hp → Prop) : Prop :=
  gk σ a0 = some (2, 0) ∧ ∃ b1 : Nat, (gr σ a0 0) = some b1 ∧ gk σ b1 = some (7, 0) ∧ P_X7_byteAt b1 (gi σ a0 2) σ (fun (r2 : Int32) (σ2 : Hp) => gk σ2 a0 = some (2, 0) ∧ (¬ ((gi σ2 a0 3) - (gi σ2 a0 2)) = (1 : Int32) → post (-1 : Int32) σ2) ∧ (((gi σ2 a0 3) - (gi σ2 a0 2)) = (1 : Int32) → ((r2 - (97 : Int32)) < 0 → post (-1 : Int32) σ2) ∧ (¬ ((r2 - (97 : Int32)) < 0) → ((4 : Int32) ≤ (r2 - (97 : Int32)) → post (-1 : Int32) σ2) ∧ (¬ ((4 : Int32) ≤ (r2 - (97 : Int32))) → post (r2 - (97 : Int32)) σ2))))
set_option maxHeartbeats 2000000 in
set_option maxRecDepth 100000 in
theorem m_X2_tableHere (l : Launch) (G : GG) (N0 : Nat) (a0 : Nat) (σ : Hp) (post : Int32 → Hp → Prop) (hP : P_X2_tableHere a0 σ post) : MM l G N0 yX2_tableHere cX2_tableHere 2 (some .int) (1) (21) 0 0 [.ref a0] σ (pI post) := by
  refine MM.of (by decide) (Nat.le_of_ble_eq_true rfl) ?_
  intro p e s m args below meth c X hr hnm
  refine V.to (lv2 := [(0, .ref a0)]) [0] rfl rfl ?_
  unfold P_X2_tableHere at hP
  refine V_aload_n X dX2_tableHere_0 rfl 0 rfl ?_
  obtain ⟨h1, hP⟩ := hP
  refine V_getr X kf_RX2_18 rfl h1 dX2_tableHere_1 ?_
  refine V_aload_n X dX2_tableHere_4 rfl 0 rfl ?_
  refine V_geti X kf_RX2_9 rfl h1 dX2_tableHere_5 ?_
  obtain ⟨b1, h2, hP⟩ := hP
  refine V_dr1 h2 ?_
  obtain ⟨h3, hP⟩ := hP
  refine V_callV_i X [.int (gi σ a0 2)] kw_RX2_81 ki_X7_byteAt ks_X7_byteAt ksg_X7_byteAt (m_X7_byteAt l G N0 _ _ _ _ hP) h3 (by decide) rfl rfl ⟨Nat.le_of_ble_eq_true rfl, Nat.le_of_ble_eq_true rfl⟩ (Nat.le_of_ble_eq_true rfl) ⟨Nat.le_of_ble_eq_true rfl, Nat.le_of_ble_eq_true rfl⟩ rfl dX2_tableHere_8 (fun r2 σ2 hP => ?_)
  refine V_bipush X (v := (97 : Int32)) dX2_tableHere_11 (by decide) ?_
  refine V_isub X dX2_tableHere_13 ?_
  refine V_istore_n X (lv' := [(1, .int (r2 - (97 : Int32))), (0, .ref a0)]) dX2_tableHere_14 rfl (by decide) rfl ?_
  refine V_aload_n X dX2_tableHere_15 rfl 1 rfl ?_
  obtain ⟨h4, hP⟩ := hP
  refine V_geti X kf_RX2_15 rfl h4 dX2_tableHere_16 ?_
  refine V_aload_n X dX2_tableHere_19 rfl 1 rfl ?_
  refine V_geti X kf_RX2_9 rfl h4 dX2_tableHere_20 ?_
  refine V_isub X dX2_tableHere_23 ?_
  refine V_iconst X (v := (1 : Int32)) dX2_tableHere_24 (by decide) ?_
  refine V_icmp_ne X (tgt := 41) dX2_tableHere_25 (by decide) (fun h5 => ?_) (fun h5 => ?_)
  · have hP := hP.1 h5
    refine V_iconst X (v := (-1 : Int32)) dX2_tableHere_41 (by decide) ?_
    exact V_iret X hr (Or.inl rfl) (Nat.le_of_ble_eq_true rfl) (Nat.le_of_ble_eq_true rfl) dX2_tableHere_42 ⟨_, rfl, hP⟩
  · have hP := hP.2 h5
    refine V_iload_n X dX2_tableHere_28 rfl 0 rfl ?_
    refine V_if_lt X (tgt := 41) dX2_tableHere_29 (by decide) (fun h6 => ?_) (fun h6 => ?_)
    · have hP := hP.1 h6
      refine V_iconst X (v := (-1 : Int32)) dX2_tableHere_41 (by decide) ?_
      exact V_iret X hr (Or.inl rfl) (Nat.le_of_ble_eq_true rfl) (Nat.le_of_ble_eq_true rfl) dX2_tableHere_42 ⟨_, rfl, hP⟩
    · have hP := hP.2 h6
      refine V_iload_n X dX2_tableHere_32 rfl 0 rfl ?_
      refine V_iconst X (v := (4 : Int32)) dX2_tableHere_33 (by decide) ?_
      refine V_icmp_ge X (tgt := 41) dX2_tableHere_34 (by decide) (fun h7 => ?_) (fun h7 => ?_)
      · have hP := hP.1 h7
        refine V_iconst X (v := (-1 : Int32)) dX2_tableHere_41 (by decide) ?_
        exact V_iret X hr (Or.inl rfl) (Nat.le_of_ble_eq_true rfl) (Nat.le_of_ble_eq_true rfl) dX2_tableHere_42 ⟨_, rfl, hP⟩
      · have hP := hP.2 h7
        refine V_iload_n X dX2_tableHere_37 rfl 0 rfl ?_
        refine V_goto X (tgt := 42) dX2_tableHere_38 (by decide) ?_
        exact V_iret X hr (Or.inl rfl) (Nat.le_of_ble_eq_true rfl) (Nat.le_of_ble_eq_true rfl) dX2_tableHere_42 ⟨_, rfl, hP⟩
def P_X6_addPart (a0 : Nat) (x1 : Int32) (σ : Hp) (post : Hp → Prop) : Prop :=
  gk σ a0 = some (6, 0) ∧ ((gi σ a0 5) < 0 → post σ) ∧ (¬ ((gi σ a0 5) < 0) → ∃ b1 : Nat, (gr σ a0 0) = some b1 ∧ ∃ n2 : Nat, gk σ b1 = some (10, n2) ∧ ((gi σ a0 5) < (Int32.ofNat n2) → vp_in (gi σ a0 5) n2 ∧ post (si (si σ b1 (Int32.toNatClampNeg (gi σ a0 5)) x1) a0 5 ((gi σ a0 5) + (1 : Int32)))) ∧ (¬ ((gi σ a0 5) < (Int32.ofNat n2)) → post σ))
set_option maxHeartbeats 2000000 in
set_option maxRecDepth 100000 in
theorem m_X6_addPart (l : Launch) (G : GG) (N0 : Nat) (a0 : Nat) (x1 : Int32) (σ : Hp) (post : Hp → Prop) (hP : P_X6_addPart a0 x1 σ post) : MM l G N0 yX6_addPart cX6_addPart 2 none (0) (0) 0 0 [.ref a0, .int x1] σ (pV post) := by
  refine MM.of (by decide) (Nat.le_of_ble_eq_true rfl) ?_
  intro p e s m args below meth c X hr hnm
  refine V.to (lv2 := [(0, .ref a0), (1, .int x1)]) [0, 1] rfl rfl ?_
  unfold P_X6_addPart at hP
  refine V_aload_n X dX6_addPart_0 rfl 0 rfl ?_
  obtain ⟨h1, hP⟩ := hP
  refine V_geti X kf_RX6_27 rfl h1 dX6_addPart_1 ?_
  refine V_if_lt X (tgt := 19) dX6_addPart_4 (by decide) (fun h2 => ?_) (fun h2 => ?_)
  · have hP := hP.1 h2
    exact V_vret X hr (Nat.le_of_ble_eq_true rfl) (Nat.le_of_ble_eq_true rfl) dX6_addPart_19 ⟨rfl, hP⟩
  · have hP := hP.2 h2
    refine V_aload_n X dX6_addPart_7 rfl 0 rfl ?_
    refine V_geti X kf_RX6_27 rfl h1 dX6_addPart_8 ?_
    refine V_aload_n X dX6_addPart_11 rfl 0 rfl ?_
    refine V_getr X kf_RX6_9 rfl h1 dX6_addPart_12 ?_
    obtain ⟨b1, h3, hP⟩ := hP
    refine V_dr0 h3 ?_
    obtain ⟨n2, h4, hP⟩ := hP
    refine V_alen X (Or.inl rfl) h4 dX6_addPart_15 ?_
    refine V_icmp_lt X (tgt := 20) dX6_addPart_16 (by decide) (fun h5 => ?_) (fun h5 => ?_)
    · have hP := hP.1 h5
      refine V_aload_n X dX6_addPart_20 rfl 0 rfl ?_
      refine V_getr X kf_RX6_9 rfl h1 dX6_addPart_21 ?_
      refine V_aload_n X dX6_addPart_24 rfl 0 rfl ?_
      refine V_geti X kf_RX6_27 rfl h1 dX6_addPart_25 ?_
      refine V_iload_n X dX6_addPart_28 rfl 1 rfl ?_
      refine V_dr2 h3 ?_
      obtain ⟨h6, hP⟩ := hP
      refine V_iast X h4 h6 dX6_addPart_29 ?_
      refine V_aload_n X dX6_addPart_30 rfl 0 rfl ?_
      refine V_dup X dX6_addPart_31 rfl ?_
      refine V_geti X kf_RX6_27 rfl h1 dX6_addPart_32 ?_
      rw [show gi (si σ b1 (Int32.toNatClampNeg (gi σ a0 5)) x1) a0 5 = (gi σ a0 5) from ((gi_sa (ne_kd h1 h4 (by decide))).trans rfl)]
      refine V_iconst X (v := (1 : Int32)) dX6_addPart_35 (by decide) ?_
      refine V_iadd X dX6_addPart_36 ?_
      refine V_puti X kf_RX6_27 (fun h => by cases h) rfl h1 (Or.inl rfl) dX6_addPart_37 ?_
      exact V_vret X hr (Nat.le_of_ble_eq_true rfl) (Nat.le_of_ble_eq_true rfl) dX6_addPart_40 ⟨rfl, hP⟩
    · have hP := hP.2 h5
      exact V_vret X hr (Nat.le_of_ble_eq_true rfl) (Nat.le_of_ble_eq_true rfl) dX6_addPart_19 ⟨rfl, hP⟩
def P_X6_hasRoomForPart (a0 : Nat) (σ : Hp) (post : Int32 → Hp → Prop) : Prop :=
  gk σ a0 = some (6, 0) ∧ ∃ b1 : Nat, (gr σ a0 0) = some b1 ∧ ∃ n2 : Nat, gk σ b1 = some (10, n2) ∧ ((Int32.ofNat n2) ≤ (gi σ a0 5) → post (0 : Int32) σ) ∧ (¬ ((Int32.ofNat n2) ≤ (gi σ a0 5)) → post (1 : Int32) σ)
set_option maxHeartbeats 2000000 in
set_option maxRecDepth 100000 in
theorem m_X6_hasRoomForPart (l : Launch) (G : GG) (N0 : Nat) (a0 : Nat) (σ : Hp) (post : Int32 → Hp → Prop) (hP : P_X6_hasRoomForPart a0 σ post) : MM l G N0 yX6_hasRoomForPart cX6_hasRoomForPart 1 (some .boolean) (0) (0) 0 0 [.ref a0] σ (pI post) := by
  refine MM.of (by decide) (Nat.le_of_ble_eq_true rfl) ?_
  intro p e s m args below meth c X hr hnm
  refine V.to (lv2 := [(0, .ref a0)]) [0] rfl rfl ?_
  unfold P_X6_hasRoomForPart at hP
  refine V_aload_n X dX6_hasRoomForPart_0 rfl 0 rfl ?_
  obtain ⟨h1, hP⟩ := hP
  refine V_geti X kf_RX6_27 rfl h1 dX6_hasRoomForPart_1 ?_
  refine V_aload_n X dX6_hasRoomForPart_4 rfl 0 rfl ?_
  refine V_getr X kf_RX6_9 rfl h1 dX6_hasRoomForPart_5 ?_
  obtain ⟨b1, h2, hP⟩ := hP
  refine V_dr0 h2 ?_
  obtain ⟨n2, h3, hP⟩ := hP
  refine V_alen X (Or.inl rfl) h3 dX6_hasRoomForPart_8 ?_
  refine V_icmp_ge X (tgt := 16) dX6_hasRoomForPart_9 (by decide) (fun h4 => ?_) (fun h4 => ?_)
  · have hP := hP.1 h4
    refine V_iconst X (v := (0 : Int32)) dX6_hasRoomForPart_16 (by decide) ?_
    exact V_iret X hr (Or.inr ⟨rfl, Or.inl rfl⟩) (Nat.le_of_ble_eq_true rfl) (Nat.le_of_ble_eq_true rfl) dX6_hasRoomForPart_17 ⟨_, rfl, hP⟩
  · have hP := hP.2 h4
    refine V_iconst X (v := (1 : Int32)) dX6_hasRoomForPart_12 (by decide) ?_
    refine V_goto X (tgt := 17) dX6_hasRoomForPart_13 (by decide) ?_
    exact V_iret X hr (Or.inr ⟨rfl, Or.inr rfl⟩) (Nat.le_of_ble_eq_true rfl) (Nat.le_of_ble_eq_true rfl) dX6_hasRoomForPart_17 ⟨_, rfl, hP⟩
def P_X6_parts (a0 : Nat) (σ : Hp) (post : Int32 → Hp → Prop) : Prop :=
  gk σ a0 = some (6, 0) ∧ post (gi σ a0 5) σ
set_option maxHeartbeats 2000000 in
set_option maxRecDepth 100000 in
theorem m_X6_parts (l : Launch) (G : GG) (N0 : Nat) (a0 : Nat) (σ : Hp) (post : Int32 → Hp → Prop) (hP : P_X6_parts a0 σ post) : MM l G N0 yX6_parts cX6_parts 1 (some .int) (0) (0) 0 0 [.ref a0] σ (pI post) := by
  refine MM.of (by decide) (Nat.le_of_ble_eq_true rfl) ?_
  intro p e s m args below meth c X hr hnm
  refine V.to (lv2 := [(0, .ref a0)]) [0] rfl rfl ?_
  unfold P_X6_parts at hP
  refine V_aload_n X dX6_parts_0 rfl 0 rfl ?_
  obtain ⟨h1, hP⟩ := hP
  refine V_geti X kf_RX6_27 rfl h1 dX6_parts_1 ?_
  exact V_iret X hr (Or.inl rfl) (Nat.le_of_ble_eq_true rfl) (Nat.le_of_ble_eq_true rfl) dX6_parts_4 ⟨_, rfl, hP⟩
def F_X2_referenceHere_5 (a0 : Nat) (post : Int32 → Hp → Prop) (K43 : Int32 → Hp → Prop) (I5 : Int32 → Hp → Prop) (v1 : Int32) (σ5 : Hp) : Prop :=
  gk σ5 a0 = some (2, 0) ∧ (((gi σ5 a0 3) - (1 : Int32)) ≤ v1 → K43 v1 σ5) ∧ (¬ (((gi σ5 a0 3) - (1 : Int32)) ≤ v1) → ((200 : Int32) ≤ v1 → K43 v1 σ5) ∧ (¬ ((200 : Int32) ≤ v1) → ∃ b501 : Nat, (gr σ5 a0 0) = some b501 ∧ gk σ5 b501 = some (7, 0) ∧ P_X7_byteAt b501 v1 σ5 (fun (r502 : Int32) (σ502 : Hp) => (r502 = (48 : Int32) → I5 (v1 + (1 : Int32)) σ502) ∧ (¬ (r502 = (48 : Int32)) → post (-1 : Int32) σ502))))
def P_X2_referenceHere (a0 : Nat) (σ : Hp) (post : Int32 → Hp → Prop) : Prop :=
  gk σ a0 = some (2, 0) ∧ lfp1 (F_X2_referenceHere_5 a0 post (fun (v1_43 : Int32) (σx43 : Hp) => gk σx43 a0 = some (2, 0) ∧ ∃ b1 : Nat, (gr σx43 a0 0) = some b1 ∧ gk σx43 b1 = some (7, 0) ∧ P_X7_byteAt b1 ((gi σx43 a0 3) - (1 : Int32)) σx43 (fun (r2 : Int32) (σ2 : Hp) => gk σ2 a0 = some (2, 0) ∧ ∃ b3 : Nat, (gr σ2 a0 0) = some b3 ∧ gk σ2 b3 = some (7, 0) ∧ P_X7_byteAt b3 (gi σ2 a0 2) σ2 (fun (r4 : Int32) (σ4 : Hp) => P_X2_isDigit r4 σ4 (fun (r5 : Int32) (σ5 : Hp) => (r5 = 0 → post (-1 : Int32) σ5) ∧ (¬ (r5 = 0) → ((r2 - (48 : Int32)) = 0 → post (r2 - (48 : Int32)) σ5) ∧ (¬ ((r2 - (48 : Int32)) = 0) → (¬ (r2 - (48 : Int32)) = (1 : Int32) → post (-1 : Int32) σ5) ∧ ((r2 - (48 : Int32)) = (1 : Int32) → post (r2 - (48 : Int32)) σ5)))))))) (gi σ a0 2) σ
set_option maxHeartbeats 2000000 in
set_option maxRecDepth 100000 in
theorem m_X2_referenceHere (l : Launch) (G : GG) (N0 : Nat) (a0 : Nat) (σ : Hp) (post : Int32 → Hp → Prop) (hP : P_X2_referenceHere a0 σ post) : MM l G N0 yX2_referenceHere cX2_referenceHere 2 (some .int) (1) (21) 0 0 [.ref a0] σ (pI post) := by
  refine MM.of (by decide) (Nat.le_of_ble_eq_true rfl) ?_
  intro p e s m args below meth c X hr hnm
  refine V.to (lv2 := [(0, .ref a0)]) [0] rfl rfl ?_
  unfold P_X2_referenceHere at hP
  refine V_aload_n X dX2_referenceHere_0 rfl 0 rfl ?_
  obtain ⟨h1, hP⟩ := hP
  refine V_geti X kf_RX2_9 rfl h1 dX2_referenceHere_1 ?_
  refine V_istore_n X (lv' := [(1, .int (gi σ a0 2)), (0, .ref a0)]) dX2_referenceHere_4 rfl (by decide) rfl ?_
  have hK43_5 : ∀ (v1_43 : Int32) (σx43 : Hp), (gk σx43 a0 = some (2, 0) ∧ ∃ b1 : Nat, (gr σx43 a0 0) = some b1 ∧ gk σx43 b1 = some (7, 0) ∧ P_X7_byteAt b1 ((gi σx43 a0 3) - (1 : Int32)) σx43 (fun (r2 : Int32) (σ2 : Hp) => gk σ2 a0 = some (2, 0) ∧ ∃ b3 : Nat, (gr σ2 a0 0) = some b3 ∧ gk σ2 b3 = some (7, 0) ∧ P_X7_byteAt b3 (gi σ2 a0 2) σ2 (fun (r4 : Int32) (σ4 : Hp) => P_X2_isDigit r4 σ4 (fun (r5 : Int32) (σ5 : Hp) => (r5 = 0 → post (-1 : Int32) σ5) ∧ (¬ (r5 = 0) → ((r2 - (48 : Int32)) = 0 → post (r2 - (48 : Int32)) σ5) ∧ (¬ ((r2 - (48 : Int32)) = 0) → (¬ (r2 - (48 : Int32)) = (1 : Int32) → post (-1 : Int32) σ5) ∧ ((r2 - (48 : Int32)) = (1 : Int32) → post (r2 - (48 : Int32)) σ5))))))) → V p l e { frames := 1, cells := 0, slots := 0, locals := 21 } s m args below meth c (MQ below (QC G N0 (pI post)) args s 0 0 (AN N0)) G N0 2 σx43 0 0 43 [(0, .ref a0), (1, .int v1_43)] [] := by
    intro v1_43 σx43 hP
    refine V_aload_n X dX2_referenceHere_43 rfl 0 rfl ?_
    obtain ⟨h2, hP⟩ := hP
    refine V_getr X kf_RX2_18 rfl h2 dX2_referenceHere_44 ?_
    refine V_aload_n X dX2_referenceHere_47 rfl 0 rfl ?_
    refine V_geti X kf_RX2_15 rfl h2 dX2_referenceHere_48 ?_
    refine V_iconst X (v := (1 : Int32)) dX2_referenceHere_51 (by decide) ?_
    refine V_isub X dX2_referenceHere_52 ?_
    obtain ⟨b1, h3, hP⟩ := hP
    refine V_dr1 h3 ?_
    obtain ⟨h4, hP⟩ := hP
    refine V_callV_i X [.int ((gi σx43 a0 3) - (1 : Int32))] kw_RX2_81 ki_X7_byteAt ks_X7_byteAt ksg_X7_byteAt (m_X7_byteAt l G N0 _ _ _ _ hP) h4 (by decide) rfl rfl ⟨Nat.le_of_ble_eq_true rfl, Nat.le_of_ble_eq_true rfl⟩ (Nat.le_of_ble_eq_true rfl) ⟨Nat.le_of_ble_eq_true rfl, Nat.le_of_ble_eq_true rfl⟩ rfl dX2_referenceHere_53 (fun r2 σ2 hP => ?_)
    refine V_bipush X (v := (48 : Int32)) dX2_referenceHere_56 (by decide) ?_
    refine V_isub X dX2_referenceHere_58 ?_
    refine V_istore_n X (lv' := [(1, .int (r2 - (48 : Int32))), (0, .ref a0)]) dX2_referenceHere_59 rfl (by decide) rfl ?_
    refine V_aload_n X dX2_referenceHere_60 rfl 1 rfl ?_
    obtain ⟨h5, hP⟩ := hP
    refine V_getr X kf_RX2_18 rfl h5 dX2_referenceHere_61 ?_
    refine V_aload_n X dX2_referenceHere_64 rfl 1 rfl ?_
    refine V_geti X kf_RX2_9 rfl h5 dX2_referenceHere_65 ?_
    obtain ⟨b3, h6, hP⟩ := hP
    refine V_dr1 h6 ?_
    obtain ⟨h7, hP⟩ := hP
    refine V_callV_i X [.int (gi σ2 a0 2)] kw_RX2_81 ki_X7_byteAt ks_X7_byteAt ksg_X7_byteAt (m_X7_byteAt l G N0 _ _ _ _ hP) h7 (by decide) rfl rfl ⟨Nat.le_of_ble_eq_true rfl, Nat.le_of_ble_eq_true rfl⟩ (Nat.le_of_ble_eq_true rfl) ⟨Nat.le_of_ble_eq_true rfl, Nat.le_of_ble_eq_true rfl⟩ rfl dX2_referenceHere_68 (fun r4 σ4 hP => ?_)
    refine V_callS_i X [.int r4] kw_RX2_90 ki_X2_isDigit (m_X2_isDigit l G N0 _ _ _ hP) rfl ⟨Nat.le_of_ble_eq_true rfl, Nat.le_of_ble_eq_true rfl⟩ (Nat.le_of_ble_eq_true rfl) ⟨Nat.le_of_ble_eq_true rfl, Nat.le_of_ble_eq_true rfl⟩ rfl dX2_referenceHere_71 (fun r5 σ5 hP => ?_)
    refine V_if_eq X (tgt := 90) dX2_referenceHere_74 (by decide) (fun h8 => ?_) (fun h8 => ?_)
    · have hP := hP.1 h8
      refine V_iconst X (v := (-1 : Int32)) dX2_referenceHere_90 (by decide) ?_
      exact V_iret X hr (Or.inl rfl) (Nat.le_of_ble_eq_true rfl) (Nat.le_of_ble_eq_true rfl) dX2_referenceHere_91 ⟨_, rfl, hP⟩
    · have hP := hP.2 h8
      refine V_iload_n X dX2_referenceHere_77 rfl 0 rfl ?_
      refine V_if_eq X (tgt := 86) dX2_referenceHere_78 (by decide) (fun h9 => ?_) (fun h9 => ?_)
      · have hP := hP.1 h9
        refine V_iload_n X dX2_referenceHere_86 rfl 0 rfl ?_
        refine V_goto X (tgt := 91) dX2_referenceHere_87 (by decide) ?_
        exact V_iret X hr (Or.inl rfl) (Nat.le_of_ble_eq_true rfl) (Nat.le_of_ble_eq_true rfl) dX2_referenceHere_91 ⟨_, rfl, hP⟩
      · have hP := hP.2 h9
        refine V_iload_n X dX2_referenceHere_81 rfl 0 rfl ?_
        refine V_iconst X (v := (1 : Int32)) dX2_referenceHere_82 (by decide) ?_
        refine V_icmp_ne X (tgt := 90) dX2_referenceHere_83 (by decide) (fun h10 => ?_) (fun h10 => ?_)
        · have hP := hP.1 h10
          refine V_iconst X (v := (-1 : Int32)) dX2_referenceHere_90 (by decide) ?_
          exact V_iret X hr (Or.inl rfl) (Nat.le_of_ble_eq_true rfl) (Nat.le_of_ble_eq_true rfl) dX2_referenceHere_91 ⟨_, rfl, hP⟩
        · have hP := hP.2 h10
          refine V_iload_n X dX2_referenceHere_86 rfl 0 rfl ?_
          refine V_goto X (tgt := 91) dX2_referenceHere_87 (by decide) ?_
          exact V_iret X hr (Or.inl rfl) (Nat.le_of_ble_eq_true rfl) (Nat.le_of_ble_eq_true rfl) dX2_referenceHere_91 ⟨_, rfl, hP⟩
  refine V.to (lv2 := [(0, .ref a0), (1, .int (gi σ a0 2))]) [1, 0] rfl rfl ?_
  refine lfp1_use (fun v1 σ5 => V p l e { frames := 1, cells := 0, slots := 0, locals := 21 } s m args below meth c (MQ below (QC G N0 (pI post)) args s 0 0 (AN N0)) G N0 2 σ5 0 0 5 [(0, .ref a0), (1, .int v1)] []) hP ?_
  intro v1 σ5 hP
  unfold F_X2_referenceHere_5 at hP
  refine V_iload_n X dX2_referenceHere_5 rfl 1 rfl ?_
  refine V_aload_n X dX2_referenceHere_6 rfl 0 rfl ?_
  obtain ⟨h5001, hP⟩ := hP
  refine V_geti X kf_RX2_15 rfl h5001 dX2_referenceHere_7 ?_
  refine V_iconst X (v := (1 : Int32)) dX2_referenceHere_10 (by decide) ?_
  refine V_isub X dX2_referenceHere_11 ?_
  refine V_icmp_ge X (tgt := 43) dX2_referenceHere_12 (by decide) (fun h5002 => ?_) (fun h5002 => ?_)
  · have hP := hP.1 h5002
    exact V.to [0, 1] rfl rfl (hK43_5 _ _ hP)
  · have hP := hP.2 h5002
    refine V_iload_n X dX2_referenceHere_15 rfl 1 rfl ?_
    refine V_sipush X (v := (200 : Int32)) dX2_referenceHere_16 (by decide) ?_
    refine V_icmp_ge X (tgt := 43) dX2_referenceHere_19 (by decide) (fun h5003 => ?_) (fun h5003 => ?_)
    · have hP := hP.1 h5003
      exact V.to [0, 1] rfl rfl (hK43_5 _ _ hP)
    · have hP := hP.2 h5003
      refine V_aload_n X dX2_referenceHere_22 rfl 0 rfl ?_
      refine V_getr X kf_RX2_18 rfl h5001 dX2_referenceHere_23 ?_
      refine V_iload_n X dX2_referenceHere_26 rfl 1 rfl ?_
      obtain ⟨b501, h5004, hP⟩ := hP
      refine V_dr1 h5004 ?_
      obtain ⟨h5005, hP⟩ := hP
      refine V_callV_i X [.int v1] kw_RX2_81 ki_X7_byteAt ks_X7_byteAt ksg_X7_byteAt (m_X7_byteAt l G N0 _ _ _ _ hP) h5005 (by decide) rfl rfl ⟨Nat.le_of_ble_eq_true rfl, Nat.le_of_ble_eq_true rfl⟩ (Nat.le_of_ble_eq_true rfl) ⟨Nat.le_of_ble_eq_true rfl, Nat.le_of_ble_eq_true rfl⟩ rfl dX2_referenceHere_27 (fun r502 σ502 hP => ?_)
      refine V_bipush X (v := (48 : Int32)) dX2_referenceHere_30 (by decide) ?_
      refine V_icmp_eq X (tgt := 37) dX2_referenceHere_32 (by decide) (fun h5006 => ?_) (fun h5006 => ?_)
      · have hP := hP.1 h5006
        refine V_iinc X (v := (v1 + (1 : Int32))) (lv' := [(1, .int (v1 + (1 : Int32))), (0, .ref a0)]) dX2_referenceHere_37 1 rfl rfl (by decide) rfl ?_
        refine V_goto X (tgt := 5) dX2_referenceHere_40 (by decide) ?_
        exact V.to [1, 0] rfl rfl hP
      · have hP := hP.2 h5006
        refine V_iconst X (v := (-1 : Int32)) dX2_referenceHere_35 (by decide) ?_
        exact V_iret X hr (Or.inl rfl) (Nat.le_of_ble_eq_true rfl) (Nat.le_of_ble_eq_true rfl) dX2_referenceHere_36 ⟨_, rfl, hP⟩
def P_X6_addItem (a0 : Nat) (x1 : Int32) (x2 : Int32) (x3 : Int32) (x4 : Int32) (σ : Hp) (post : Hp → Prop) : Prop :=
  gk σ a0 = some (6, 0) ∧ ((gi σ a0 6) < 0 → post σ) ∧ (¬ ((gi σ a0 6) < 0) → ((gi σ a0 6) < (100 : Int32) → ∃ b1 : Nat, (gr σ a0 1) = some b1 ∧ ∃ n2 : Nat, gk σ b1 = some (10, n2) ∧ vp_in (gi σ a0 6) n2 ∧ ∃ b3 : Nat, (gr σ a0 2) = some b3 ∧ ∃ n4 : Nat, gk σ b3 = some (10, n4) ∧ vp_in (gi σ a0 6) n4 ∧ ∃ b5 : Nat, (gr σ a0 3) = some b5 ∧ ∃ n6 : Nat, gk σ b5 = some (10, n6) ∧ vp_in (gi σ a0 6) n6 ∧ ∃ b7 : Nat, (gr σ a0 4) = some b7 ∧ ∃ n8 : Nat, gk σ b7 = some (10, n8) ∧ vp_in (gi σ a0 6) n8 ∧ post (si (si (si (si (si σ b1 (Int32.toNatClampNeg (gi σ a0 6)) x1) b3 (Int32.toNatClampNeg (gi σ a0 6)) x2) b5 (Int32.toNatClampNeg (gi σ a0 6)) x3) b7 (Int32.toNatClampNeg (gi σ a0 6)) x4) a0 6 ((gi σ a0 6) + (1 : Int32)))) ∧ (¬ ((gi σ a0 6) < (100 : Int32)) → post σ))
set_option maxHeartbeats 2000000 in
set_option maxRecDepth 100000 in
theorem m_X6_addItem (l : Launch) (G : GG) (N0 : Nat) (a0 : Nat) (x1 : Int32) (x2 : Int32) (x3 : Int32) (x4 : Int32) (σ : Hp) (post : Hp → Prop) (hP : P_X6_addItem a0 x1 x2 x3 x4 σ post) : MM l G N0 yX6_addItem cX6_addItem 5 none (0) (0) 0 0 [.ref a0, .int x1, .int x2, .int x3, .int x4] σ (pV post) := by
  refine MM.of (by decide) (Nat.le_of_ble_eq_true rfl) ?_
  intro p e s m args below meth c X hr hnm
  refine V.to (lv2 := [(0, .ref a0), (1, .int x1), (2, .int x2), (3, .int x3), (4, .int x4)]) [0, 1, 2, 3, 4] rfl rfl ?_
  unfold P_X6_addItem at hP
  refine V_aload_n X dX6_addItem_0 rfl 0 rfl ?_
  obtain ⟨h1, hP⟩ := hP
  refine V_geti X kf_RX6_31 rfl h1 dX6_addItem_1 ?_
  refine V_if_lt X (tgt := 16) dX6_addItem_4 (by decide) (fun h2 => ?_) (fun h2 => ?_)
  · have hP := hP.1 h2
    exact V_vret X hr (Nat.le_of_ble_eq_true rfl) (Nat.le_of_ble_eq_true rfl) dX6_addItem_16 ⟨rfl, hP⟩
  · have hP := hP.2 h2
    refine V_aload_n X dX6_addItem_7 rfl 0 rfl ?_
    refine V_geti X kf_RX6_31 rfl h1 dX6_addItem_8 ?_
    refine V_bipush X (v := (100 : Int32)) dX6_addItem_11 (by decide) ?_
    refine V_icmp_lt X (tgt := 17) dX6_addItem_13 (by decide) (fun h3 => ?_) (fun h3 => ?_)
    · have hP := hP.1 h3
      refine V_aload_n X dX6_addItem_17 rfl 0 rfl ?_
      refine V_getr X kf_RX6_15 rfl h1 dX6_addItem_18 ?_
      refine V_aload_n X dX6_addItem_21 rfl 0 rfl ?_
      refine V_geti X kf_RX6_31 rfl h1 dX6_addItem_22 ?_
      refine V_iload_n X dX6_addItem_25 rfl 1 rfl ?_
      obtain ⟨b1, h4, hP⟩ := hP
      refine V_dr2 h4 ?_
      obtain ⟨n2, h5, hP⟩ := hP
      obtain ⟨h6, hP⟩ := hP
      refine V_iast X h5 h6 dX6_addItem_26 ?_
      refine V_aload_n X dX6_addItem_27 rfl 0 rfl ?_
      refine V_getr X kf_RX6_18 rfl h1 dX6_addItem_28 ?_
      rw [show gr (si σ b1 (Int32.toNatClampNeg (gi σ a0 6)) x1) a0 2 = (gr σ a0 2) from rfl]
      refine V_aload_n X dX6_addItem_31 rfl 0 rfl ?_
      refine V_geti X kf_RX6_31 rfl h1 dX6_addItem_32 ?_
      rw [show gi (si σ b1 (Int32.toNatClampNeg (gi σ a0 6)) x1) a0 6 = (gi σ a0 6) from ((gi_sa (ne_kd h1 h5 (by decide))).trans rfl)]
      refine V_iload_n X dX6_addItem_35 rfl 2 rfl ?_
      obtain ⟨b3, h7, hP⟩ := hP
      refine V_dr2 h7 ?_
      obtain ⟨n4, h8, hP⟩ := hP
      obtain ⟨h9, hP⟩ := hP
      refine V_iast X h8 h9 dX6_addItem_36 ?_
      refine V_aload_n X dX6_addItem_37 rfl 0 rfl ?_
      refine V_getr X kf_RX6_21 rfl h1 dX6_addItem_38 ?_
      rw [show gr (si (si σ b1 (Int32.toNatClampNeg (gi σ a0 6)) x1) b3 (Int32.toNatClampNeg (gi σ a0 6)) x2) a0 3 = (gr σ a0 3) from rfl]
      refine V_aload_n X dX6_addItem_41 rfl 0 rfl ?_
      refine V_geti X kf_RX6_31 rfl h1 dX6_addItem_42 ?_
      rw [show gi (si (si σ b1 (Int32.toNatClampNeg (gi σ a0 6)) x1) b3 (Int32.toNatClampNeg (gi σ a0 6)) x2) a0 6 = (gi σ a0 6) from ((gi_sa (ne_kd h1 h8 (by decide))).trans ((gi_sa (ne_kd h1 h5 (by decide))).trans rfl))]
      refine V_iload_n X dX6_addItem_45 rfl 3 rfl ?_
      obtain ⟨b5, h10, hP⟩ := hP
      refine V_dr2 h10 ?_
      obtain ⟨n6, h11, hP⟩ := hP
      obtain ⟨h12, hP⟩ := hP
      refine V_iast X h11 h12 dX6_addItem_46 ?_
      refine V_aload_n X dX6_addItem_47 rfl 0 rfl ?_
      refine V_getr X kf_RX6_24 rfl h1 dX6_addItem_48 ?_
      rw [show gr (si (si (si σ b1 (Int32.toNatClampNeg (gi σ a0 6)) x1) b3 (Int32.toNatClampNeg (gi σ a0 6)) x2) b5 (Int32.toNatClampNeg (gi σ a0 6)) x3) a0 4 = (gr σ a0 4) from rfl]
      refine V_aload_n X dX6_addItem_51 rfl 0 rfl ?_
      refine V_geti X kf_RX6_31 rfl h1 dX6_addItem_52 ?_
      rw [show gi (si (si (si σ b1 (Int32.toNatClampNeg (gi σ a0 6)) x1) b3 (Int32.toNatClampNeg (gi σ a0 6)) x2) b5 (Int32.toNatClampNeg (gi σ a0 6)) x3) a0 6 = (gi σ a0 6) from ((gi_sa (ne_kd h1 h11 (by decide))).trans ((gi_sa (ne_kd h1 h8 (by decide))).trans ((gi_sa (ne_kd h1 h5 (by decide))).trans rfl)))]
      refine V_iload X dX6_addItem_55 4 rfl ?_
      obtain ⟨b7, h13, hP⟩ := hP
      refine V_dr2 h13 ?_
      obtain ⟨n8, h14, hP⟩ := hP
      obtain ⟨h15, hP⟩ := hP
      refine V_iast X h14 h15 dX6_addItem_57 ?_
      refine V_aload_n X dX6_addItem_58 rfl 0 rfl ?_
      refine V_dup X dX6_addItem_59 rfl ?_
      refine V_geti X kf_RX6_31 rfl h1 dX6_addItem_60 ?_
      rw [show gi (si (si (si (si σ b1 (Int32.toNatClampNeg (gi σ a0 6)) x1) b3 (Int32.toNatClampNeg (gi σ a0 6)) x2) b5 (Int32.toNatClampNeg (gi σ a0 6)) x3) b7 (Int32.toNatClampNeg (gi σ a0 6)) x4) a0 6 = (gi σ a0 6) from ((gi_sa (ne_kd h1 h14 (by decide))).trans ((gi_sa (ne_kd h1 h11 (by decide))).trans ((gi_sa (ne_kd h1 h8 (by decide))).trans ((gi_sa (ne_kd h1 h5 (by decide))).trans rfl))))]
      refine V_iconst X (v := (1 : Int32)) dX6_addItem_63 (by decide) ?_
      refine V_iadd X dX6_addItem_64 ?_
      refine V_puti X kf_RX6_31 (fun h => by cases h) rfl h1 (Or.inl rfl) dX6_addItem_65 ?_
      exact V_vret X hr (Nat.le_of_ble_eq_true rfl) (Nat.le_of_ble_eq_true rfl) dX6_addItem_68 ⟨rfl, hP⟩
    · have hP := hP.2 h3
      exact V_vret X hr (Nat.le_of_ble_eq_true rfl) (Nat.le_of_ble_eq_true rfl) dX6_addItem_16 ⟨rfl, hP⟩
def F_X2_readItems_2 (P_X2_readItem : Nat → Int32 → Int32 → Hp → (Int32 → Hp → Prop) → Prop) (a0 : Nat) (x1 : Int32) (x2 : Int32) (post : Int32 → Hp → Prop) (I2 : Int32 → Hp → Prop) (v3 : Int32) (σ2 : Hp) : Prop :=
  ((100 : Int32) ≤ v3 → post (0 : Int32) σ2) ∧ (¬ ((100 : Int32) ≤ v3) → gk σ2 a0 = some (2, 0) ∧ P_X2_readItem a0 x1 x2 σ2 (fun (r201 : Int32) (σ201 : Hp) => (¬ r201 = 0 → gk σ201 a0 = some (2, 0) ∧ P_X2_isSign a0 (125 : Int32) σ201 (fun (r202 : Int32) (σ202 : Hp) => (¬ r202 = 0 → gk σ202 a0 = some (2, 0) ∧ P_X2_advance a0 σ202 (fun (σ203 : Hp) => (r202 = 0 → I2 (v3 + (1 : Int32)) σ203) ∧ (¬ (r202 = 0) → post (1 : Int32) σ203))) ∧ (r202 = 0 → gk σ202 a0 = some (2, 0) ∧ P_X2_isSign a0 (44 : Int32) σ202 (fun (r204 : Int32) (σ204 : Hp) => (¬ r204 = 0 → gk σ204 a0 = some (2, 0) ∧ P_X2_advance a0 σ204 (fun (σ205 : Hp) => (r202 = 0 → I2 (v3 + (1 : Int32)) σ205) ∧ (¬ (r202 = 0) → post (1 : Int32) σ205))) ∧ (r204 = 0 → post (0 : Int32) σ204))))) ∧ (r201 = 0 → post (0 : Int32) σ201)))
def O_X2_readItems (P_X2_readItem : Nat → Int32 → Int32 → Hp → (Int32 → Hp → Prop) → Prop) (a0 : Nat) (x1 : Int32) (x2 : Int32) (σ : Hp) (post : Int32 → Hp → Prop) : Prop :=
  lfp1 (F_X2_readItems_2 P_X2_readItem a0 x1 x2 post) (0 : Int32) σ
set_option maxHeartbeats 2000000 in
set_option maxRecDepth 100000 in
theorem mO_X2_readItems (l : Launch) (G : GG) (N0 : Nat) {fr lo : Nat} (hfr : 20 ≤ fr) (hlo : 400 ≤ lo) (P_X2_readItem : Nat → Int32 → Int32 → Hp → (Int32 → Hp → Prop) → Prop) (hX2_readItem : ∀ (a0 : Nat) (x1 : Int32) (x2 : Int32) (σ : Hp) (post : Int32 → Hp → Prop), P_X2_readItem a0 x1 x2 σ post → MM l G N0 yX2_readItem cX2_readItem 5 (some .boolean) fr lo 0 0 [.ref a0, .int x1, .int x2] σ (pI post)) (a0 : Nat) (x1 : Int32) (x2 : Int32) (σ : Hp) (post : Int32 → Hp → Prop) (hP : O_X2_readItems P_X2_readItem a0 x1 x2 σ post) : MM l G N0 yX2_readItems cX2_readItems 5 (some .boolean) (fr + 1) (lo + 39) 0 0 [.ref a0, .int x1, .int x2] σ (pI post) := by
  refine MM.of (by decide) (Nat.le_of_ble_eq_true rfl) ?_
  intro p e s m args below meth c X hr hnm
  refine V.to (lv2 := [(0, .ref a0), (1, .int x1), (2, .int x2)]) [0, 1, 2] rfl rfl ?_
  unfold O_X2_readItems at hP
  refine V_iconst X (v := (0 : Int32)) dX2_readItems_0 (by decide) ?_
  refine V_istore_n X (lv' := [(3, .int (0 : Int32)), (0, .ref a0), (1, .int x1), (2, .int x2)]) dX2_readItems_1 rfl (by decide) rfl ?_
  refine V.to (lv2 := [(0, .ref a0), (1, .int x1), (2, .int x2), (3, .int (0 : Int32))]) [1, 2, 3, 0] rfl rfl ?_
  refine lfp1_use (fun v3 σ2 => V p l e { frames := fr + 1, cells := 0, slots := 0, locals := lo + 39 } s m args below meth c (MQ below (QC G N0 (pI post)) args s 0 0 (AN N0)) G N0 5 σ2 0 0 2 [(0, .ref a0), (1, .int x1), (2, .int x2), (3, .int v3)] []) hP ?_
  intro v3 σ2 hP
  unfold F_X2_readItems_2 at hP
  refine V_iload_n X dX2_readItems_2 rfl 3 rfl ?_
  refine V_bipush X (v := (100 : Int32)) dX2_readItems_3 (by decide) ?_
  refine V_icmp_ge X (tgt := 60) dX2_readItems_5 (by decide) (fun h2001 => ?_) (fun h2001 => ?_)
  · have hP := hP.1 h2001
    refine V_iconst X (v := (0 : Int32)) dX2_readItems_60 (by decide) ?_
    exact V_iret X hr (Or.inr ⟨rfl, Or.inl rfl⟩) (Nat.le_of_ble_eq_true rfl) (Nat.le_of_ble_eq_true rfl) dX2_readItems_61 ⟨_, rfl, hP⟩
  · have hP := hP.2 h2001
    refine V_aload_n X dX2_readItems_8 rfl 0 rfl ?_
    refine V_iload_n X dX2_readItems_9 rfl 1 rfl ?_
    refine V_iload_n X dX2_readItems_10 rfl 2 rfl ?_
    obtain ⟨h2002, hP⟩ := hP
    refine V_callV_i X [.int x1, .int x2] kw_RX2_61 ki_X2_readItem ks_X2_readItem ksg_X2_readItem (hX2_readItem _ _ _ _ _ hP) h2002 (by decide) rfl rfl ⟨show fr + 1 ≤ fr + 1 from Nat.le_refl _, show 8 + (5 + 11) + lo ≤ lo + 39 from by omega⟩ (Nat.le_of_ble_eq_true rfl) ⟨Nat.le_of_ble_eq_true rfl, Nat.le_of_ble_eq_true rfl⟩ rfl dX2_readItems_11 (fun r201 σ201 hP => ?_)
    refine V_if_ne X (tgt := 19) dX2_readItems_14 (by decide) (fun h2003 => ?_) (fun h2003 => ?_)
    · have hP := hP.1 h2003
      refine V_aload_n X dX2_readItems_19 rfl 0 rfl ?_
      refine V_bipush X (v := (125 : Int32)) dX2_readItems_20 (by decide) ?_
      obtain ⟨h2004, hP⟩ := hP
      refine V_callV_i X [.int (125 : Int32)] kw_RX2_53 ki_X2_isSign ks_X2_isSign ksg_X2_isSign (m_X2_isSign l G N0 _ _ _ _ hP) h2004 (by decide) rfl rfl ⟨show 1 + 1 ≤ fr + 1 from by omega, show 8 + (2 + 11) + 21 ≤ lo + 39 from by omega⟩ (Nat.le_of_ble_eq_true rfl) ⟨Nat.le_of_ble_eq_true rfl, Nat.le_of_ble_eq_true rfl⟩ rfl dX2_readItems_22 (fun r202 σ202 hP => ?_)
      refine V_istore X (lv' := [(4, .int r202), (0, .ref a0), (1, .int x1), (2, .int x2), (3, .int v3)]) dX2_readItems_25 (by decide) rfl ?_
      refine V_iload X dX2_readItems_27 0 rfl ?_
      refine V_if_ne X (tgt := 43) dX2_readItems_29 (by decide) (fun h2005 => ?_) (fun h2005 => ?_)
      · have hP := hP.1 h2005
        refine V_aload_n X dX2_readItems_43 rfl 1 rfl ?_
        obtain ⟨h2006, hP⟩ := hP
        refine V_callV_v X [] kw_RX2_26 ki_X2_advance ks_X2_advance ksg_X2_advance (m_X2_advance l G N0 _ _ _ hP) h2006 (by decide) rfl rfl ⟨show 1 + 1 ≤ fr + 1 from by omega, show 8 + (4 + 11) + 21 ≤ lo + 39 from by omega⟩ (Nat.le_of_ble_eq_true rfl) ⟨Nat.le_of_ble_eq_true rfl, Nat.le_of_ble_eq_true rfl⟩ rfl dX2_readItems_44 (fun σ203 hP => ?_)
        refine V_iload X dX2_readItems_47 0 rfl ?_
        refine V_if_eq X (tgt := 54) dX2_readItems_49 (by decide) (fun h2007 => ?_) (fun h2007 => ?_)
        · have hP := hP.1 h2007
          refine V_iinc X (v := (v3 + (1 : Int32))) (lv' := [(3, .int (v3 + (1 : Int32))), (4, .int r202), (0, .ref a0), (1, .int x1), (2, .int x2)]) dX2_readItems_54 4 rfl rfl (by decide) rfl ?_
          refine V_goto X (tgt := 2) dX2_readItems_57 (by decide) ?_
          exact V.to [2, 3, 4, 0] rfl rfl hP
        · have hP := hP.2 h2007
          refine V_iconst X (v := (1 : Int32)) dX2_readItems_52 (by decide) ?_
          exact V_iret X hr (Or.inr ⟨rfl, Or.inr rfl⟩) (Nat.le_of_ble_eq_true rfl) (Nat.le_of_ble_eq_true rfl) dX2_readItems_53 ⟨_, rfl, hP⟩
      · have hP := hP.2 h2005
        refine V_aload_n X dX2_readItems_32 rfl 1 rfl ?_
        refine V_bipush X (v := (44 : Int32)) dX2_readItems_33 (by decide) ?_
        obtain ⟨h2008, hP⟩ := hP
        refine V_callV_i X [.int (44 : Int32)] kw_RX2_53 ki_X2_isSign ks_X2_isSign ksg_X2_isSign (m_X2_isSign l G N0 _ _ _ _ hP) h2008 (by decide) rfl rfl ⟨show 1 + 1 ≤ fr + 1 from by omega, show 8 + (2 + 11) + 21 ≤ lo + 39 from by omega⟩ (Nat.le_of_ble_eq_true rfl) ⟨Nat.le_of_ble_eq_true rfl, Nat.le_of_ble_eq_true rfl⟩ rfl dX2_readItems_35 (fun r204 σ204 hP => ?_)
        refine V_if_ne X (tgt := 43) dX2_readItems_38 (by decide) (fun h2009 => ?_) (fun h2009 => ?_)
        · have hP := hP.1 h2009
          refine V_aload_n X dX2_readItems_43 rfl 1 rfl ?_
          obtain ⟨h2010, hP⟩ := hP
          refine V_callV_v X [] kw_RX2_26 ki_X2_advance ks_X2_advance ksg_X2_advance (m_X2_advance l G N0 _ _ _ hP) h2010 (by decide) rfl rfl ⟨show 1 + 1 ≤ fr + 1 from by omega, show 8 + (4 + 11) + 21 ≤ lo + 39 from by omega⟩ (Nat.le_of_ble_eq_true rfl) ⟨Nat.le_of_ble_eq_true rfl, Nat.le_of_ble_eq_true rfl⟩ rfl dX2_readItems_44 (fun σ205 hP => ?_)
          refine V_iload X dX2_readItems_47 0 rfl ?_
          refine V_if_eq X (tgt := 54) dX2_readItems_49 (by decide) (fun h2011 => ?_) (fun h2011 => ?_)
          · have hP := hP.1 h2011
            refine V_iinc X (v := (v3 + (1 : Int32))) (lv' := [(3, .int (v3 + (1 : Int32))), (4, .int r202), (0, .ref a0), (1, .int x1), (2, .int x2)]) dX2_readItems_54 4 rfl rfl (by decide) rfl ?_
            refine V_goto X (tgt := 2) dX2_readItems_57 (by decide) ?_
            exact V.to [2, 3, 4, 0] rfl rfl hP
          · have hP := hP.2 h2011
            refine V_iconst X (v := (1 : Int32)) dX2_readItems_52 (by decide) ?_
            exact V_iret X hr (Or.inr ⟨rfl, Or.inr rfl⟩) (Nat.le_of_ble_eq_true rfl) (Nat.le_of_ble_eq_true rfl) dX2_readItems_53 ⟨_, rfl, hP⟩
        · have hP := hP.2 h2009
          refine V_iconst X (v := (0 : Int32)) dX2_readItems_41 (by decide) ?_
          exact V_iret X hr (Or.inr ⟨rfl, Or.inl rfl⟩) (Nat.le_of_ble_eq_true rfl) (Nat.le_of_ble_eq_true rfl) dX2_readItems_42 ⟨_, rfl, hP⟩
    · have hP := hP.2 h2003
      refine V_iconst X (v := (0 : Int32)) dX2_readItems_17 (by decide) ?_
      exact V_iret X hr (Or.inr ⟨rfl, Or.inl rfl⟩) (Nat.le_of_ble_eq_true rfl) (Nat.le_of_ble_eq_true rfl) dX2_readItems_18 ⟨_, rfl, hP⟩
def O_X2_readPart (P_X2_readItems : Nat → Int32 → Int32 → Hp → (Int32 → Hp → Prop) → Prop) (a0 : Nat) (x1 : Int32) (σ : Hp) (post : Int32 → Hp → Prop) : Prop :=
  gk σ a0 = some (2, 0) ∧ P_X2_tableHere a0 σ (fun (r1 : Int32) (σ1 : Hp) => (r1 = (-1 : Int32) → post (0 : Int32) σ1) ∧ (¬ (r1 = (-1 : Int32)) → gk σ1 a0 = some (2, 0) ∧ ∃ b2 : Nat, (gr σ1 a0 1) = some b2 ∧ gk σ1 b2 = some (6, 0) ∧ P_X6_hasRoomForPart b2 σ1 (fun (r3 : Int32) (σ3 : Hp) => (¬ r3 = 0 → gk σ3 a0 = some (2, 0) ∧ ∃ b4 : Nat, (gr σ3 a0 1) = some b4 ∧ gk σ3 b4 = some (6, 0) ∧ P_X6_parts b4 σ3 (fun (r5 : Int32) (σ5 : Hp) => gk σ5 a0 = some (2, 0) ∧ ∃ b6 : Nat, (gr σ5 a0 1) = some b6 ∧ gk σ5 b6 = some (6, 0) ∧ P_X6_addPart b6 r1 σ5 (fun (σ7 : Hp) => gk σ7 a0 = some (2, 0) ∧ P_X2_advance a0 σ7 (fun (σ8 : Hp) => gk σ8 a0 = some (2, 0) ∧ P_X2_isSign a0 (123 : Int32) σ8 (fun (r9 : Int32) (σ9 : Hp) => (¬ r9 = 0 → (x1 < (6 : Int32) → gk σ9 a0 = some (2, 0) ∧ P_X2_advance a0 σ9 (fun (σ10 : Hp) => gk σ10 a0 = some (2, 0) ∧ P_X2_readItems a0 r5 (x1 + (1 : Int32)) σ10 (fun (r11 : Int32) (σ11 : Hp) => (r11 = 0 ∨ r11 = 1) ∧ post r11 σ11))) ∧ (¬ (x1 < (6 : Int32)) → post (0 : Int32) σ9)) ∧ (r9 = 0 → post (1 : Int32) σ9)))))) ∧ (r3 = 0 → post (0 : Int32) σ3))))
set_option maxHeartbeats 2000000 in
set_option maxRecDepth 100000 in
theorem mO_X2_readPart (l : Launch) (G : GG) (N0 : Nat) {fr lo : Nat} (hfr : 20 ≤ fr) (hlo : 400 ≤ lo) (P_X2_readItems : Nat → Int32 → Int32 → Hp → (Int32 → Hp → Prop) → Prop) (hX2_readItems : ∀ (a0 : Nat) (x1 : Int32) (x2 : Int32) (σ : Hp) (post : Int32 → Hp → Prop), P_X2_readItems a0 x1 x2 σ post → MM l G N0 yX2_readItems cX2_readItems 5 (some .boolean) fr lo 0 0 [.ref a0, .int x1, .int x2] σ (pI post)) (a0 : Nat) (x1 : Int32) (σ : Hp) (post : Int32 → Hp → Prop) (hP : O_X2_readPart P_X2_readItems a0 x1 σ post) : MM l G N0 yX2_readPart cX2_readPart 4 (some .boolean) (fr + 1) (lo + 39) 0 0 [.ref a0, .int x1] σ (pI post) := by
  refine MM.of (by decide) (Nat.le_of_ble_eq_true rfl) ?_
  intro p e s m args below meth c X hr hnm
  refine V.to (lv2 := [(0, .ref a0), (1, .int x1)]) [0, 1] rfl rfl ?_
  unfold O_X2_readPart at hP
  refine V_aload_n X dX2_readPart_0 rfl 0 rfl ?_
  obtain ⟨h1, hP⟩ := hP
  refine V_callV_i X [] kw_RX2_37 ki_X2_tableHere ks_X2_tableHere ksg_X2_tableHere (m_X2_tableHere l G N0 _ _ _ hP) h1 (by decide) rfl rfl ⟨show 1 + 1 ≤ fr + 1 from by omega, show 8 + (2 + 11) + 21 ≤ lo + 39 from by omega⟩ (Nat.le_of_ble_eq_true rfl) ⟨Nat.le_of_ble_eq_true rfl, Nat.le_of_ble_eq_true rfl⟩ rfl dX2_readPart_1 (fun r1 σ1 hP => ?_)
  refine V_istore_n X (lv' := [(2, .int r1), (0, .ref a0), (1, .int x1)]) dX2_readPart_4 rfl (by decide) rfl ?_
  refine V_iload_n X dX2_readPart_5 rfl 0 rfl ?_
  refine V_iconst X (v := (-1 : Int32)) dX2_readPart_6 (by decide) ?_
  refine V_icmp_eq X (tgt := 20) dX2_readPart_7 (by decide) (fun h2 => ?_) (fun h2 => ?_)
  · have hP := hP.1 h2
    refine V_iconst X (v := (0 : Int32)) dX2_readPart_20 (by decide) ?_
    exact V_iret X hr (Or.inr ⟨rfl, Or.inl rfl⟩) (Nat.le_of_ble_eq_true rfl) (Nat.le_of_ble_eq_true rfl) dX2_readPart_21 ⟨_, rfl, hP⟩
  · have hP := hP.2 h2
    refine V_aload_n X dX2_readPart_10 rfl 1 rfl ?_
    obtain ⟨h3, hP⟩ := hP
    refine V_getr X kf_RX2_22 rfl h3 dX2_readPart_11 ?_
    obtain ⟨b2, h4, hP⟩ := hP
    refine V_dr0 h4 ?_
    obtain ⟨h5, hP⟩ := hP
    refine V_callV_i X [] kw_RX2_41 ki_X6_hasRoomForPart ks_X6_hasRoomForPart ksg_X6_hasRoomForPart (m_X6_hasRoomForPart l G N0 _ _ _ hP) h5 (by decide) rfl rfl ⟨show 0 + 1 ≤ fr + 1 from by omega, show 8 + (1 + 11) + 0 ≤ lo + 39 from by omega⟩ (Nat.le_of_ble_eq_true rfl) ⟨Nat.le_of_ble_eq_true rfl, Nat.le_of_ble_eq_true rfl⟩ rfl dX2_readPart_14 (fun r3 σ3 hP => ?_)
    refine V_if_ne X (tgt := 22) dX2_readPart_17 (by decide) (fun h6 => ?_) (fun h6 => ?_)
    · have hP := hP.1 h6
      refine V_aload_n X dX2_readPart_22 rfl 1 rfl ?_
      obtain ⟨h7, hP⟩ := hP
      refine V_getr X kf_RX2_22 rfl h7 dX2_readPart_23 ?_
      obtain ⟨b4, h8, hP⟩ := hP
      refine V_dr0 h8 ?_
      obtain ⟨h9, hP⟩ := hP
      refine V_callV_i X [] kw_RX2_46 ki_X6_parts ks_X6_parts ksg_X6_parts (m_X6_parts l G N0 _ _ _ hP) h9 (by decide) rfl rfl ⟨show 0 + 1 ≤ fr + 1 from by omega, show 8 + (1 + 11) + 0 ≤ lo + 39 from by omega⟩ (Nat.le_of_ble_eq_true rfl) ⟨Nat.le_of_ble_eq_true rfl, Nat.le_of_ble_eq_true rfl⟩ rfl dX2_readPart_26 (fun r5 σ5 hP => ?_)
      refine V_istore_n X (lv' := [(3, .int r5), (2, .int r1), (0, .ref a0), (1, .int x1)]) dX2_readPart_29 rfl (by decide) rfl ?_
      refine V_aload_n X dX2_readPart_30 rfl 2 rfl ?_
      obtain ⟨h10, hP⟩ := hP
      refine V_getr X kf_RX2_22 rfl h10 dX2_readPart_31 ?_
      refine V_iload_n X dX2_readPart_34 rfl 1 rfl ?_
      obtain ⟨b6, h11, hP⟩ := hP
      refine V_dr1 h11 ?_
      obtain ⟨h12, hP⟩ := hP
      refine V_callV_v X [.int r1] kw_RX2_49 ki_X6_addPart ks_X6_addPart ksg_X6_addPart (m_X6_addPart l G N0 _ _ _ _ hP) h12 (by decide) rfl rfl ⟨show 0 + 1 ≤ fr + 1 from by omega, show 8 + (2 + 11) + 0 ≤ lo + 39 from by omega⟩ (Nat.le_of_ble_eq_true rfl) ⟨Nat.le_of_ble_eq_true rfl, Nat.le_of_ble_eq_true rfl⟩ rfl dX2_readPart_35 (fun σ7 hP => ?_)
      refine V_aload_n X dX2_readPart_38 rfl 2 rfl ?_
      obtain ⟨h13, hP⟩ := hP
      refine V_callV_v X [] kw_RX2_26 ki_X2_advance ks_X2_advance ksg_X2_advance (m_X2_advance l G N0 _ _ _ hP) h13 (by decide) rfl rfl ⟨show 1 + 1 ≤ fr + 1 from by omega, show 8 + (4 + 11) + 21 ≤ lo + 39 from by omega⟩ (Nat.le_of_ble_eq_true rfl) ⟨Nat.le_of_ble_eq_true rfl, Nat.le_of_ble_eq_true rfl⟩ rfl dX2_readPart_39 (fun σ8 hP => ?_)
      refine V_aload_n X dX2_readPart_42 rfl 2 rfl ?_
      refine V_bipush X (v := (123 : Int32)) dX2_readPart_43 (by decide) ?_
      obtain ⟨h14, hP⟩ := hP
      refine V_callV_i X [.int (123 : Int32)] kw_RX2_53 ki_X2_isSign ks_X2_isSign ksg_X2_isSign (m_X2_isSign l G N0 _ _ _ _ hP) h14 (by decide) rfl rfl ⟨show 1 + 1 ≤ fr + 1 from by omega, show 8 + (2 + 11) + 21 ≤ lo + 39 from by omega⟩ (Nat.le_of_ble_eq_true rfl) ⟨Nat.le_of_ble_eq_true rfl, Nat.le_of_ble_eq_true rfl⟩ rfl dX2_readPart_45 (fun r9 σ9 hP => ?_)
      refine V_if_ne X (tgt := 53) dX2_readPart_48 (by decide) (fun h15 => ?_) (fun h15 => ?_)
      · have hP := hP.1 h15
        refine V_iload_n X dX2_readPart_53 rfl 3 rfl ?_
        refine V_bipush X (v := (6 : Int32)) dX2_readPart_54 (by decide) ?_
        refine V_icmp_lt X (tgt := 61) dX2_readPart_56 (by decide) (fun h16 => ?_) (fun h16 => ?_)
        · have hP := hP.1 h16
          refine V_aload_n X dX2_readPart_61 rfl 2 rfl ?_
          obtain ⟨h17, hP⟩ := hP
          refine V_callV_v X [] kw_RX2_26 ki_X2_advance ks_X2_advance ksg_X2_advance (m_X2_advance l G N0 _ _ _ hP) h17 (by decide) rfl rfl ⟨show 1 + 1 ≤ fr + 1 from by omega, show 8 + (4 + 11) + 21 ≤ lo + 39 from by omega⟩ (Nat.le_of_ble_eq_true rfl) ⟨Nat.le_of_ble_eq_true rfl, Nat.le_of_ble_eq_true rfl⟩ rfl dX2_readPart_62 (fun σ10 hP => ?_)
          refine V_aload_n X dX2_readPart_65 rfl 2 rfl ?_
          refine V_iload_n X dX2_readPart_66 rfl 0 rfl ?_
          refine V_iload_n X dX2_readPart_67 rfl 3 rfl ?_
          refine V_iconst X (v := (1 : Int32)) dX2_readPart_68 (by decide) ?_
          refine V_iadd X dX2_readPart_69 ?_
          obtain ⟨h18, hP⟩ := hP
          refine V_callV_i X [.int r5, .int (x1 + (1 : Int32))] kw_RX2_57 ki_X2_readItems ks_X2_readItems ksg_X2_readItems (hX2_readItems _ _ _ _ _ hP) h18 (by decide) rfl rfl ⟨show fr + 1 ≤ fr + 1 from Nat.le_refl _, show 8 + (5 + 11) + lo ≤ lo + 39 from by omega⟩ (Nat.le_of_ble_eq_true rfl) ⟨Nat.le_of_ble_eq_true rfl, Nat.le_of_ble_eq_true rfl⟩ rfl dX2_readPart_70 (fun r11 σ11 hP => ?_)
          obtain ⟨h19, hP⟩ := hP
          exact V_iret X hr (Or.inr ⟨rfl, h19⟩) (Nat.le_of_ble_eq_true rfl) (Nat.le_of_ble_eq_true rfl) dX2_readPart_73 ⟨_, rfl, hP⟩
        · have hP := hP.2 h16
          refine V_iconst X (v := (0 : Int32)) dX2_readPart_59 (by decide) ?_
          exact V_iret X hr (Or.inr ⟨rfl, Or.inl rfl⟩) (Nat.le_of_ble_eq_true rfl) (Nat.le_of_ble_eq_true rfl) dX2_readPart_60 ⟨_, rfl, hP⟩
      · have hP := hP.2 h15
        refine V_iconst X (v := (1 : Int32)) dX2_readPart_51 (by decide) ?_
        exact V_iret X hr (Or.inr ⟨rfl, Or.inr rfl⟩) (Nat.le_of_ble_eq_true rfl) (Nat.le_of_ble_eq_true rfl) dX2_readPart_52 ⟨_, rfl, hP⟩
    · have hP := hP.2 h6
      refine V_iconst X (v := (0 : Int32)) dX2_readPart_20 (by decide) ?_
      exact V_iret X hr (Or.inr ⟨rfl, Or.inl rfl⟩) (Nat.le_of_ble_eq_true rfl) (Nat.le_of_ble_eq_true rfl) dX2_readPart_21 ⟨_, rfl, hP⟩
def O_X2_readItem (P_X2_readPart : Nat → Int32 → Hp → (Int32 → Hp → Prop) → Prop) (a0 : Nat) (x1 : Int32) (x2 : Int32) (σ : Hp) (post : Int32 → Hp → Prop) : Prop :=
  gk σ a0 = some (2, 0) ∧ P_X2_isWord a0 0 σ (fun (r1 : Int32) (σ1 : Hp) => (r1 = 0 → gk σ1 a0 = some (2, 0) ∧ P_X2_isWord a0 1 σ1 (fun (r2 : Int32) (σ2 : Hp) => (¬ r2 = 0 → gk σ2 a0 = some (2, 0) ∧ P_X2_advance a0 σ2 (fun (σ3 : Hp) => gk σ3 a0 = some (2, 0) ∧ P_X2_referenceHere a0 σ3 (fun (r4 : Int32) (σ4 : Hp) => (¬ r4 = (-1 : Int32) → gk σ4 a0 = some (2, 0) ∧ P_X2_advance a0 σ4 (fun (σ5 : Hp) => gk σ5 a0 = some (2, 0) ∧ (r2 = 0 → ∃ b6 : Nat, (gr σ5 a0 1) = some b6 ∧ gk σ5 b6 = some (6, 0) ∧ P_X6_parts b6 σ5 (fun (r7 : Int32) (σ7 : Hp) => gk σ7 b6 = some (6, 0) ∧ P_X6_addItem b6 x1 (2 : Int32) r4 r7 σ7 (fun (σ8 : Hp) => gk σ8 a0 = some (2, 0) ∧ P_X2_readPart a0 x2 σ8 (fun (r9 : Int32) (σ9 : Hp) => (r9 = 0 ∨ r9 = 1) ∧ post r9 σ9)))) ∧ (¬ (r2 = 0) → ∃ b10 : Nat, (gr σ5 a0 1) = some b10 ∧ gk σ5 b10 = some (6, 0) ∧ P_X6_parts b10 σ5 (fun (r11 : Int32) (σ11 : Hp) => gk σ11 b10 = some (6, 0) ∧ P_X6_addItem b10 x1 (1 : Int32) r4 r11 σ11 (fun (σ12 : Hp) => gk σ12 a0 = some (2, 0) ∧ P_X2_readPart a0 x2 σ12 (fun (r13 : Int32) (σ13 : Hp) => (r13 = 0 ∨ r13 = 1) ∧ post r13 σ13)))))) ∧ (r4 = (-1 : Int32) → post (0 : Int32) σ4)))) ∧ (r2 = 0 → gk σ2 a0 = some (2, 0) ∧ P_X2_isWord a0 2 σ2 (fun (r14 : Int32) (σ14 : Hp) => (¬ r14 = 0 → gk σ14 a0 = some (2, 0) ∧ P_X2_advance a0 σ14 (fun (σ15 : Hp) => gk σ15 a0 = some (2, 0) ∧ P_X2_referenceHere a0 σ15 (fun (r16 : Int32) (σ16 : Hp) => (¬ r16 = (-1 : Int32) → gk σ16 a0 = some (2, 0) ∧ P_X2_advance a0 σ16 (fun (σ17 : Hp) => gk σ17 a0 = some (2, 0) ∧ (r2 = 0 → ∃ b18 : Nat, (gr σ17 a0 1) = some b18 ∧ gk σ17 b18 = some (6, 0) ∧ P_X6_parts b18 σ17 (fun (r19 : Int32) (σ19 : Hp) => gk σ19 b18 = some (6, 0) ∧ P_X6_addItem b18 x1 (2 : Int32) r16 r19 σ19 (fun (σ20 : Hp) => gk σ20 a0 = some (2, 0) ∧ P_X2_readPart a0 x2 σ20 (fun (r21 : Int32) (σ21 : Hp) => (r21 = 0 ∨ r21 = 1) ∧ post r21 σ21)))) ∧ (¬ (r2 = 0) → ∃ b22 : Nat, (gr σ17 a0 1) = some b22 ∧ gk σ17 b22 = some (6, 0) ∧ P_X6_parts b22 σ17 (fun (r23 : Int32) (σ23 : Hp) => gk σ23 b22 = some (6, 0) ∧ P_X6_addItem b22 x1 (1 : Int32) r16 r23 σ23 (fun (σ24 : Hp) => gk σ24 a0 = some (2, 0) ∧ P_X2_readPart a0 x2 σ24 (fun (r25 : Int32) (σ25 : Hp) => (r25 = 0 ∨ r25 = 1) ∧ post r25 σ25)))))) ∧ (r16 = (-1 : Int32) → post (0 : Int32) σ16)))) ∧ (r14 = 0 → post (0 : Int32) σ14))))) ∧ (¬ (r1 = 0) → gk σ1 a0 = some (2, 0) ∧ ∃ b26 : Nat, (gr σ1 a0 1) = some b26 ∧ gk σ1 b26 = some (6, 0) ∧ P_X6_addItem b26 x1 (0 : Int32) (-1 : Int32) (-1 : Int32) σ1 (fun (σ27 : Hp) => gk σ27 a0 = some (2, 0) ∧ P_X2_advance a0 σ27 (fun (σ28 : Hp) => post (1 : Int32) σ28))))
set_option maxHeartbeats 2000000 in
set_option maxRecDepth 100000 in
theorem mO_X2_readItem (l : Launch) (G : GG) (N0 : Nat) {fr lo : Nat} (hfr : 20 ≤ fr) (hlo : 400 ≤ lo) (P_X2_readPart : Nat → Int32 → Hp → (Int32 → Hp → Prop) → Prop) (hX2_readPart : ∀ (a0 : Nat) (x1 : Int32) (σ : Hp) (post : Int32 → Hp → Prop), P_X2_readPart a0 x1 σ post → MM l G N0 yX2_readPart cX2_readPart 4 (some .boolean) fr lo 0 0 [.ref a0, .int x1] σ (pI post)) (a0 : Nat) (x1 : Int32) (x2 : Int32) (σ : Hp) (post : Int32 → Hp → Prop) (hP : O_X2_readItem P_X2_readPart a0 x1 x2 σ post) : MM l G N0 yX2_readItem cX2_readItem 5 (some .boolean) (fr + 1) (lo + 39) 0 0 [.ref a0, .int x1, .int x2] σ (pI post) := by
  refine MM.of (by decide) (Nat.le_of_ble_eq_true rfl) ?_
  intro p e s m args below meth c X hr hnm
  refine V.to (lv2 := [(0, .ref a0), (1, .int x1), (2, .int x2)]) [0, 1, 2] rfl rfl ?_
  unfold O_X2_readItem at hP
  refine V_aload_n X dX2_readItem_0 rfl 0 rfl ?_
  refine V_ldcS X (i := 0) X.2.2.2.2.2.2.1.2.2.2.1.1 dX2_readItem_1 ?_
  obtain ⟨h1, hP⟩ := hP
  refine V_callV_i X [.ref (G.2.2.1 0)] kw_RX2_66 ki_X2_isWord ks_X2_isWord ksg_X2_isWord (m_X2_isWord l G N0 _ _ _ _ hP) h1 (by decide) rfl rfl ⟨show 8 + 1 ≤ fr + 1 from by omega, show 8 + (3 + 11) + 300 ≤ lo + 39 from by omega⟩ (Nat.le_of_ble_eq_true rfl) ⟨Nat.le_of_ble_eq_true rfl, Nat.le_of_ble_eq_true rfl⟩ rfl dX2_readItem_3 (fun r1 σ1 hP => ?_)
  refine V_if_eq X (tgt := 26) dX2_readItem_6 (by decide) (fun h2 => ?_) (fun h2 => ?_)
  · have hP := hP.1 h2
    refine V_aload_n X dX2_readItem_26 rfl 0 rfl ?_
    refine V_ldcS X (i := 1) X.2.2.2.2.2.2.1.2.2.2.1.2.1 dX2_readItem_27 ?_
    obtain ⟨h3, hP⟩ := hP
    refine V_callV_i X [.ref (G.2.2.1 1)] kw_RX2_66 ki_X2_isWord ks_X2_isWord ksg_X2_isWord (m_X2_isWord l G N0 _ _ _ _ hP) h3 (by decide) rfl rfl ⟨show 8 + 1 ≤ fr + 1 from by omega, show 8 + (3 + 11) + 300 ≤ lo + 39 from by omega⟩ (Nat.le_of_ble_eq_true rfl) ⟨Nat.le_of_ble_eq_true rfl, Nat.le_of_ble_eq_true rfl⟩ rfl dX2_readItem_29 (fun r2 σ2 hP => ?_)
    refine V_istore_n X (lv' := [(3, .int r2), (0, .ref a0), (1, .int x1), (2, .int x2)]) dX2_readItem_32 rfl (by decide) rfl ?_
    refine V_iload_n X dX2_readItem_33 rfl 0 rfl ?_
    refine V_if_ne X (tgt := 48) dX2_readItem_34 (by decide) (fun h4 => ?_) (fun h4 => ?_)
    · have hP := hP.1 h4
      refine V_aload_n X dX2_readItem_48 rfl 1 rfl ?_
      obtain ⟨h5, hP⟩ := hP
      refine V_callV_v X [] kw_RX2_26 ki_X2_advance ks_X2_advance ksg_X2_advance (m_X2_advance l G N0 _ _ _ hP) h5 (by decide) rfl rfl ⟨show 1 + 1 ≤ fr + 1 from by omega, show 8 + (4 + 11) + 21 ≤ lo + 39 from by omega⟩ (Nat.le_of_ble_eq_true rfl) ⟨Nat.le_of_ble_eq_true rfl, Nat.le_of_ble_eq_true rfl⟩ rfl dX2_readItem_49 (fun σ3 hP => ?_)
      refine V_aload_n X dX2_readItem_52 rfl 1 rfl ?_
      obtain ⟨h6, hP⟩ := hP
      refine V_callV_i X [] kw_RX2_78 ki_X2_referenceHere ks_X2_referenceHere ksg_X2_referenceHere (m_X2_referenceHere l G N0 _ _ _ hP) h6 (by decide) rfl rfl ⟨show 1 + 1 ≤ fr + 1 from by omega, show 8 + (2 + 11) + 21 ≤ lo + 39 from by omega⟩ (Nat.le_of_ble_eq_true rfl) ⟨Nat.le_of_ble_eq_true rfl, Nat.le_of_ble_eq_true rfl⟩ rfl dX2_readItem_53 (fun r4 σ4 hP => ?_)
      refine V_istore X (lv' := [(4, .int r4), (3, .int r2), (0, .ref a0), (1, .int x1), (2, .int x2)]) dX2_readItem_56 (by decide) rfl ?_
      refine V_iload X dX2_readItem_58 0 rfl ?_
      refine V_iconst X (v := (-1 : Int32)) dX2_readItem_60 (by decide) ?_
      refine V_icmp_ne X (tgt := 66) dX2_readItem_61 (by decide) (fun h7 => ?_) (fun h7 => ?_)
      · have hP := hP.1 h7
        refine V_aload_n X dX2_readItem_66 rfl 2 rfl ?_
        obtain ⟨h8, hP⟩ := hP
        refine V_callV_v X [] kw_RX2_26 ki_X2_advance ks_X2_advance ksg_X2_advance (m_X2_advance l G N0 _ _ _ hP) h8 (by decide) rfl rfl ⟨show 1 + 1 ≤ fr + 1 from by omega, show 8 + (4 + 11) + 21 ≤ lo + 39 from by omega⟩ (Nat.le_of_ble_eq_true rfl) ⟨Nat.le_of_ble_eq_true rfl, Nat.le_of_ble_eq_true rfl⟩ rfl dX2_readItem_67 (fun σ5 hP => ?_)
        refine V_aload_n X dX2_readItem_70 rfl 2 rfl ?_
        obtain ⟨h9, hP⟩ := hP
        refine V_getr X kf_RX2_22 rfl h9 dX2_readItem_71 ?_
        refine V_iload_n X dX2_readItem_74 rfl 3 rfl ?_
        refine V_iload_n X dX2_readItem_75 rfl 1 rfl ?_
        refine V_if_eq X (tgt := 83) dX2_readItem_76 (by decide) (fun h10 => ?_) (fun h10 => ?_)
        · have hP := hP.1 h10
          refine V_iconst X (v := (2 : Int32)) dX2_readItem_83 (by decide) ?_
          refine V_iload X dX2_readItem_84 0 rfl ?_
          refine V_aload_n X dX2_readItem_86 rfl 2 rfl ?_
          refine V_getr X kf_RX2_22 rfl h9 dX2_readItem_87 ?_
          obtain ⟨b6, h11, hP⟩ := hP
          refine V_dr0 h11 ?_
          obtain ⟨h12, hP⟩ := hP
          refine V_callV_i X [] kw_RX2_46 ki_X6_parts ks_X6_parts ksg_X6_parts (m_X6_parts l G N0 _ _ _ hP) h12 (by decide) rfl rfl ⟨show 0 + 1 ≤ fr + 1 from by omega, show 8 + (1 + 11) + 0 ≤ lo + 39 from by omega⟩ (by simp only [List.map_cons, vcat]; exact Nat.le_of_ble_eq_true rfl) ⟨Nat.le_of_ble_eq_true rfl, Nat.le_of_ble_eq_true rfl⟩ rfl dX2_readItem_90 (fun r7 σ7 hP => ?_)
          refine V_dr4 h11 ?_
          obtain ⟨h13, hP⟩ := hP
          refine V_callV_v X [.int x1, .int (2 : Int32), .int r4, .int r7] kw_RX2_70 ki_X6_addItem ks_X6_addItem ksg_X6_addItem (m_X6_addItem l G N0 _ _ _ _ _ _ _ hP) h13 (by decide) rfl rfl ⟨show 0 + 1 ≤ fr + 1 from by omega, show 8 + (5 + 11) + 0 ≤ lo + 39 from by omega⟩ (Nat.le_of_ble_eq_true rfl) ⟨Nat.le_of_ble_eq_true rfl, Nat.le_of_ble_eq_true rfl⟩ rfl dX2_readItem_93 (fun σ8 hP => ?_)
          refine V_aload_n X dX2_readItem_96 rfl 2 rfl ?_
          refine V_iload_n X dX2_readItem_97 rfl 4 rfl ?_
          obtain ⟨h14, hP⟩ := hP
          refine V_callV_i X [.int x2] kw_RX2_29 ki_X2_readPart ks_X2_readPart ksg_X2_readPart (hX2_readPart _ _ _ _ hP) h14 (by decide) rfl rfl ⟨show fr + 1 ≤ fr + 1 from Nat.le_refl _, show 8 + (4 + 11) + lo ≤ lo + 39 from by omega⟩ (Nat.le_of_ble_eq_true rfl) ⟨Nat.le_of_ble_eq_true rfl, Nat.le_of_ble_eq_true rfl⟩ rfl dX2_readItem_98 (fun r9 σ9 hP => ?_)
          obtain ⟨h15, hP⟩ := hP
          exact V_iret X hr (Or.inr ⟨rfl, h15⟩) (Nat.le_of_ble_eq_true rfl) (Nat.le_of_ble_eq_true rfl) dX2_readItem_101 ⟨_, rfl, hP⟩
        · have hP := hP.2 h10
          refine V_iconst X (v := (1 : Int32)) dX2_readItem_79 (by decide) ?_
          refine V_goto X (tgt := 84) dX2_readItem_80 (by decide) ?_
          refine V_iload X dX2_readItem_84 0 rfl ?_
          refine V_aload_n X dX2_readItem_86 rfl 2 rfl ?_
          refine V_getr X kf_RX2_22 rfl h9 dX2_readItem_87 ?_
          obtain ⟨b10, h16, hP⟩ := hP
          refine V_dr0 h16 ?_
          obtain ⟨h17, hP⟩ := hP
          refine V_callV_i X [] kw_RX2_46 ki_X6_parts ks_X6_parts ksg_X6_parts (m_X6_parts l G N0 _ _ _ hP) h17 (by decide) rfl rfl ⟨show 0 + 1 ≤ fr + 1 from by omega, show 8 + (1 + 11) + 0 ≤ lo + 39 from by omega⟩ (by simp only [List.map_cons, vcat]; exact Nat.le_of_ble_eq_true rfl) ⟨Nat.le_of_ble_eq_true rfl, Nat.le_of_ble_eq_true rfl⟩ rfl dX2_readItem_90 (fun r11 σ11 hP => ?_)
          refine V_dr4 h16 ?_
          obtain ⟨h18, hP⟩ := hP
          refine V_callV_v X [.int x1, .int (1 : Int32), .int r4, .int r11] kw_RX2_70 ki_X6_addItem ks_X6_addItem ksg_X6_addItem (m_X6_addItem l G N0 _ _ _ _ _ _ _ hP) h18 (by decide) rfl rfl ⟨show 0 + 1 ≤ fr + 1 from by omega, show 8 + (5 + 11) + 0 ≤ lo + 39 from by omega⟩ (Nat.le_of_ble_eq_true rfl) ⟨Nat.le_of_ble_eq_true rfl, Nat.le_of_ble_eq_true rfl⟩ rfl dX2_readItem_93 (fun σ12 hP => ?_)
          refine V_aload_n X dX2_readItem_96 rfl 2 rfl ?_
          refine V_iload_n X dX2_readItem_97 rfl 4 rfl ?_
          obtain ⟨h19, hP⟩ := hP
          refine V_callV_i X [.int x2] kw_RX2_29 ki_X2_readPart ks_X2_readPart ksg_X2_readPart (hX2_readPart _ _ _ _ hP) h19 (by decide) rfl rfl ⟨show fr + 1 ≤ fr + 1 from Nat.le_refl _, show 8 + (4 + 11) + lo ≤ lo + 39 from by omega⟩ (Nat.le_of_ble_eq_true rfl) ⟨Nat.le_of_ble_eq_true rfl, Nat.le_of_ble_eq_true rfl⟩ rfl dX2_readItem_98 (fun r13 σ13 hP => ?_)
          obtain ⟨h20, hP⟩ := hP
          exact V_iret X hr (Or.inr ⟨rfl, h20⟩) (Nat.le_of_ble_eq_true rfl) (Nat.le_of_ble_eq_true rfl) dX2_readItem_101 ⟨_, rfl, hP⟩
      · have hP := hP.2 h7
        refine V_iconst X (v := (0 : Int32)) dX2_readItem_64 (by decide) ?_
        exact V_iret X hr (Or.inr ⟨rfl, Or.inl rfl⟩) (Nat.le_of_ble_eq_true rfl) (Nat.le_of_ble_eq_true rfl) dX2_readItem_65 ⟨_, rfl, hP⟩
    · have hP := hP.2 h4
      refine V_aload_n X dX2_readItem_37 rfl 1 rfl ?_
      refine V_ldcS X (i := 2) X.2.2.2.2.2.2.1.2.2.2.1.2.2 dX2_readItem_38 ?_
      obtain ⟨h21, hP⟩ := hP
      refine V_callV_i X [.ref (G.2.2.1 2)] kw_RX2_66 ki_X2_isWord ks_X2_isWord ksg_X2_isWord (m_X2_isWord l G N0 _ _ _ _ hP) h21 (by decide) rfl rfl ⟨show 8 + 1 ≤ fr + 1 from by omega, show 8 + (3 + 11) + 300 ≤ lo + 39 from by omega⟩ (Nat.le_of_ble_eq_true rfl) ⟨Nat.le_of_ble_eq_true rfl, Nat.le_of_ble_eq_true rfl⟩ rfl dX2_readItem_40 (fun r14 σ14 hP => ?_)
      refine V_if_ne X (tgt := 48) dX2_readItem_43 (by decide) (fun h22 => ?_) (fun h22 => ?_)
      · have hP := hP.1 h22
        refine V_aload_n X dX2_readItem_48 rfl 1 rfl ?_
        obtain ⟨h23, hP⟩ := hP
        refine V_callV_v X [] kw_RX2_26 ki_X2_advance ks_X2_advance ksg_X2_advance (m_X2_advance l G N0 _ _ _ hP) h23 (by decide) rfl rfl ⟨show 1 + 1 ≤ fr + 1 from by omega, show 8 + (4 + 11) + 21 ≤ lo + 39 from by omega⟩ (Nat.le_of_ble_eq_true rfl) ⟨Nat.le_of_ble_eq_true rfl, Nat.le_of_ble_eq_true rfl⟩ rfl dX2_readItem_49 (fun σ15 hP => ?_)
        refine V_aload_n X dX2_readItem_52 rfl 1 rfl ?_
        obtain ⟨h24, hP⟩ := hP
        refine V_callV_i X [] kw_RX2_78 ki_X2_referenceHere ks_X2_referenceHere ksg_X2_referenceHere (m_X2_referenceHere l G N0 _ _ _ hP) h24 (by decide) rfl rfl ⟨show 1 + 1 ≤ fr + 1 from by omega, show 8 + (2 + 11) + 21 ≤ lo + 39 from by omega⟩ (Nat.le_of_ble_eq_true rfl) ⟨Nat.le_of_ble_eq_true rfl, Nat.le_of_ble_eq_true rfl⟩ rfl dX2_readItem_53 (fun r16 σ16 hP => ?_)
        refine V_istore X (lv' := [(4, .int r16), (3, .int r2), (0, .ref a0), (1, .int x1), (2, .int x2)]) dX2_readItem_56 (by decide) rfl ?_
        refine V_iload X dX2_readItem_58 0 rfl ?_
        refine V_iconst X (v := (-1 : Int32)) dX2_readItem_60 (by decide) ?_
        refine V_icmp_ne X (tgt := 66) dX2_readItem_61 (by decide) (fun h25 => ?_) (fun h25 => ?_)
        · have hP := hP.1 h25
          refine V_aload_n X dX2_readItem_66 rfl 2 rfl ?_
          obtain ⟨h26, hP⟩ := hP
          refine V_callV_v X [] kw_RX2_26 ki_X2_advance ks_X2_advance ksg_X2_advance (m_X2_advance l G N0 _ _ _ hP) h26 (by decide) rfl rfl ⟨show 1 + 1 ≤ fr + 1 from by omega, show 8 + (4 + 11) + 21 ≤ lo + 39 from by omega⟩ (Nat.le_of_ble_eq_true rfl) ⟨Nat.le_of_ble_eq_true rfl, Nat.le_of_ble_eq_true rfl⟩ rfl dX2_readItem_67 (fun σ17 hP => ?_)
          refine V_aload_n X dX2_readItem_70 rfl 2 rfl ?_
          obtain ⟨h27, hP⟩ := hP
          refine V_getr X kf_RX2_22 rfl h27 dX2_readItem_71 ?_
          refine V_iload_n X dX2_readItem_74 rfl 3 rfl ?_
          refine V_iload_n X dX2_readItem_75 rfl 1 rfl ?_
          refine V_if_eq X (tgt := 83) dX2_readItem_76 (by decide) (fun h28 => ?_) (fun h28 => ?_)
          · have hP := hP.1 h28
            refine V_iconst X (v := (2 : Int32)) dX2_readItem_83 (by decide) ?_
            refine V_iload X dX2_readItem_84 0 rfl ?_
            refine V_aload_n X dX2_readItem_86 rfl 2 rfl ?_
            refine V_getr X kf_RX2_22 rfl h27 dX2_readItem_87 ?_
            obtain ⟨b18, h29, hP⟩ := hP
            refine V_dr0 h29 ?_
            obtain ⟨h30, hP⟩ := hP
            refine V_callV_i X [] kw_RX2_46 ki_X6_parts ks_X6_parts ksg_X6_parts (m_X6_parts l G N0 _ _ _ hP) h30 (by decide) rfl rfl ⟨show 0 + 1 ≤ fr + 1 from by omega, show 8 + (1 + 11) + 0 ≤ lo + 39 from by omega⟩ (by simp only [List.map_cons, vcat]; exact Nat.le_of_ble_eq_true rfl) ⟨Nat.le_of_ble_eq_true rfl, Nat.le_of_ble_eq_true rfl⟩ rfl dX2_readItem_90 (fun r19 σ19 hP => ?_)
            refine V_dr4 h29 ?_
            obtain ⟨h31, hP⟩ := hP
            refine V_callV_v X [.int x1, .int (2 : Int32), .int r16, .int r19] kw_RX2_70 ki_X6_addItem ks_X6_addItem ksg_X6_addItem (m_X6_addItem l G N0 _ _ _ _ _ _ _ hP) h31 (by decide) rfl rfl ⟨show 0 + 1 ≤ fr + 1 from by omega, show 8 + (5 + 11) + 0 ≤ lo + 39 from by omega⟩ (Nat.le_of_ble_eq_true rfl) ⟨Nat.le_of_ble_eq_true rfl, Nat.le_of_ble_eq_true rfl⟩ rfl dX2_readItem_93 (fun σ20 hP => ?_)
            refine V_aload_n X dX2_readItem_96 rfl 2 rfl ?_
            refine V_iload_n X dX2_readItem_97 rfl 4 rfl ?_
            obtain ⟨h32, hP⟩ := hP
            refine V_callV_i X [.int x2] kw_RX2_29 ki_X2_readPart ks_X2_readPart ksg_X2_readPart (hX2_readPart _ _ _ _ hP) h32 (by decide) rfl rfl ⟨show fr + 1 ≤ fr + 1 from Nat.le_refl _, show 8 + (4 + 11) + lo ≤ lo + 39 from by omega⟩ (Nat.le_of_ble_eq_true rfl) ⟨Nat.le_of_ble_eq_true rfl, Nat.le_of_ble_eq_true rfl⟩ rfl dX2_readItem_98 (fun r21 σ21 hP => ?_)
            obtain ⟨h33, hP⟩ := hP
            exact V_iret X hr (Or.inr ⟨rfl, h33⟩) (Nat.le_of_ble_eq_true rfl) (Nat.le_of_ble_eq_true rfl) dX2_readItem_101 ⟨_, rfl, hP⟩
          · have hP := hP.2 h28
            refine V_iconst X (v := (1 : Int32)) dX2_readItem_79 (by decide) ?_
            refine V_goto X (tgt := 84) dX2_readItem_80 (by decide) ?_
            refine V_iload X dX2_readItem_84 0 rfl ?_
            refine V_aload_n X dX2_readItem_86 rfl 2 rfl ?_
            refine V_getr X kf_RX2_22 rfl h27 dX2_readItem_87 ?_
            obtain ⟨b22, h34, hP⟩ := hP
            refine V_dr0 h34 ?_
            obtain ⟨h35, hP⟩ := hP
            refine V_callV_i X [] kw_RX2_46 ki_X6_parts ks_X6_parts ksg_X6_parts (m_X6_parts l G N0 _ _ _ hP) h35 (by decide) rfl rfl ⟨show 0 + 1 ≤ fr + 1 from by omega, show 8 + (1 + 11) + 0 ≤ lo + 39 from by omega⟩ (by simp only [List.map_cons, vcat]; exact Nat.le_of_ble_eq_true rfl) ⟨Nat.le_of_ble_eq_true rfl, Nat.le_of_ble_eq_true rfl⟩ rfl dX2_readItem_90 (fun r23 σ23 hP => ?_)
            refine V_dr4 h34 ?_
            obtain ⟨h36, hP⟩ := hP
            refine V_callV_v X [.int x1, .int (1 : Int32), .int r16, .int r23] kw_RX2_70 ki_X6_addItem ks_X6_addItem ksg_X6_addItem (m_X6_addItem l G N0 _ _ _ _ _ _ _ hP) h36 (by decide) rfl rfl ⟨show 0 + 1 ≤ fr + 1 from by omega, show 8 + (5 + 11) + 0 ≤ lo + 39 from by omega⟩ (Nat.le_of_ble_eq_true rfl) ⟨Nat.le_of_ble_eq_true rfl, Nat.le_of_ble_eq_true rfl⟩ rfl dX2_readItem_93 (fun σ24 hP => ?_)
            refine V_aload_n X dX2_readItem_96 rfl 2 rfl ?_
            refine V_iload_n X dX2_readItem_97 rfl 4 rfl ?_
            obtain ⟨h37, hP⟩ := hP
            refine V_callV_i X [.int x2] kw_RX2_29 ki_X2_readPart ks_X2_readPart ksg_X2_readPart (hX2_readPart _ _ _ _ hP) h37 (by decide) rfl rfl ⟨show fr + 1 ≤ fr + 1 from Nat.le_refl _, show 8 + (4 + 11) + lo ≤ lo + 39 from by omega⟩ (Nat.le_of_ble_eq_true rfl) ⟨Nat.le_of_ble_eq_true rfl, Nat.le_of_ble_eq_true rfl⟩ rfl dX2_readItem_98 (fun r25 σ25 hP => ?_)
            obtain ⟨h38, hP⟩ := hP
            exact V_iret X hr (Or.inr ⟨rfl, h38⟩) (Nat.le_of_ble_eq_true rfl) (Nat.le_of_ble_eq_true rfl) dX2_readItem_101 ⟨_, rfl, hP⟩
        · have hP := hP.2 h25
          refine V_iconst X (v := (0 : Int32)) dX2_readItem_64 (by decide) ?_
          exact V_iret X hr (Or.inr ⟨rfl, Or.inl rfl⟩) (Nat.le_of_ble_eq_true rfl) (Nat.le_of_ble_eq_true rfl) dX2_readItem_65 ⟨_, rfl, hP⟩
      · have hP := hP.2 h22
        refine V_iconst X (v := (0 : Int32)) dX2_readItem_46 (by decide) ?_
        exact V_iret X hr (Or.inr ⟨rfl, Or.inl rfl⟩) (Nat.le_of_ble_eq_true rfl) (Nat.le_of_ble_eq_true rfl) dX2_readItem_47 ⟨_, rfl, hP⟩
  · have hP := hP.2 h2
    refine V_aload_n X dX2_readItem_9 rfl 0 rfl ?_
    obtain ⟨h39, hP⟩ := hP
    refine V_getr X kf_RX2_22 rfl h39 dX2_readItem_10 ?_
    refine V_iload_n X dX2_readItem_13 rfl 1 rfl ?_
    refine V_iconst X (v := (0 : Int32)) dX2_readItem_14 (by decide) ?_
    refine V_iconst X (v := (-1 : Int32)) dX2_readItem_15 (by decide) ?_
    refine V_iconst X (v := (-1 : Int32)) dX2_readItem_16 (by decide) ?_
    obtain ⟨b26, h40, hP⟩ := hP
    refine V_dr4 h40 ?_
    obtain ⟨h41, hP⟩ := hP
    refine V_callV_v X [.int x1, .int (0 : Int32), .int (-1 : Int32), .int (-1 : Int32)] kw_RX2_70 ki_X6_addItem ks_X6_addItem ksg_X6_addItem (m_X6_addItem l G N0 _ _ _ _ _ _ _ hP) h41 (by decide) rfl rfl ⟨show 0 + 1 ≤ fr + 1 from by omega, show 8 + (5 + 11) + 0 ≤ lo + 39 from by omega⟩ (Nat.le_of_ble_eq_true rfl) ⟨Nat.le_of_ble_eq_true rfl, Nat.le_of_ble_eq_true rfl⟩ rfl dX2_readItem_17 (fun σ27 hP => ?_)
    refine V_aload_n X dX2_readItem_20 rfl 0 rfl ?_
    obtain ⟨h42, hP⟩ := hP
    refine V_callV_v X [] kw_RX2_26 ki_X2_advance ks_X2_advance ksg_X2_advance (m_X2_advance l G N0 _ _ _ hP) h42 (by decide) rfl rfl ⟨show 1 + 1 ≤ fr + 1 from by omega, show 8 + (4 + 11) + 21 ≤ lo + 39 from by omega⟩ (Nat.le_of_ble_eq_true rfl) ⟨Nat.le_of_ble_eq_true rfl, Nat.le_of_ble_eq_true rfl⟩ rfl dX2_readItem_21 (fun σ28 hP => ?_)
    refine V_iconst X (v := (1 : Int32)) dX2_readItem_24 (by decide) ?_
    exact V_iret X hr (Or.inr ⟨rfl, Or.inr rfl⟩) (Nat.le_of_ble_eq_true rfl) (Nat.le_of_ble_eq_true rfl) dX2_readItem_25 ⟨_, rfl, hP⟩
def PD_X2_readPart : Nat → Nat → Int32 → Hp → (Int32 → Hp → Prop) → Prop
  | 0 => fun _ _ _ _ => False
  | d + 1 => O_X2_readPart (O_X2_readItems (O_X2_readItem (PD_X2_readPart d)))
theorem mD_X2_readPart (l : Launch) (G : GG) (N0 : Nat) : ∀ (d : Nat) (a0 : Nat) (x1 : Int32) (σ : Hp) (post : Int32 → Hp → Prop), PD_X2_readPart d a0 x1 σ post → MM l G N0 yX2_readPart cX2_readPart 4 (some .boolean) (20 + 3 * d) (400 + 117 * d) 0 0 [.ref a0, .int x1] σ (pI post)
  | 0, _, _, _, _, h => h.elim
  | d + 1, a0, x1, σ, post, h => by
    have ih := mD_X2_readPart l G N0 d
    have h1 := mO_X2_readPart l G N0 (fr := 20 + 3 * d + 2) (lo := 400 + 117 * d + 78) (by omega) (by omega) (O_X2_readItems (O_X2_readItem (PD_X2_readPart d))) (mO_X2_readItems l G N0 (fr := 20 + 3 * d + 1) (lo := 400 + 117 * d + 39) (by omega) (by omega) (O_X2_readItem (PD_X2_readPart d)) (mO_X2_readItem l G N0 (fr := 20 + 3 * d) (lo := 400 + 117 * d) (by omega) (by omega) (PD_X2_readPart d) ih)) a0 x1 σ post h
    exact h1
def P_X2_readPart : Nat → Int32 → Hp → (Int32 → Hp → Prop) → Prop := PD_X2_readPart 9
theorem m_X2_readPart (l : Launch) (G : GG) (N0 : Nat) (a0 : Nat) (x1 : Int32) (σ : Hp) (post : Int32 → Hp → Prop) (hP : P_X2_readPart a0 x1 σ post) : MM l G N0 yX2_readPart cX2_readPart 4 (some .boolean) 47 1453 0 0 [.ref a0, .int x1] σ (pI post) := mD_X2_readPart l G N0 9 a0 x1 σ post hP
def P_X2_readText (a0 : Nat) (σ : Hp) (post : Int32 → Hp → Prop) : Prop :=
  gk σ a0 = some (2, 0) ∧ P_X2_advance a0 σ (fun (σ1 : Hp) => gk σ1 a0 = some (2, 0) ∧ P_X2_readPart a0 (0 : Int32) σ1 (fun (r2 : Int32) (σ2 : Hp) => (r2 = 0 → post (0 : Int32) σ2) ∧ (¬ (r2 = 0) → gk σ2 a0 = some (2, 0) ∧ P_X2_isAtEnd a0 σ2 (fun (r3 : Int32) (σ3 : Hp) => (r3 = 0 → post (0 : Int32) σ3) ∧ (¬ (r3 = 0) → post (1 : Int32) σ3)))))
set_option maxHeartbeats 2000000 in
set_option maxRecDepth 100000 in
theorem m_X2_readText (l : Launch) (G : GG) (N0 : Nat) (a0 : Nat) (σ : Hp) (post : Int32 → Hp → Prop) (hP : P_X2_readText a0 σ post) : MM l G N0 yX2_readText cX2_readText 1 (some .boolean) (48) (1476) 0 0 [.ref a0] σ (pI post) := by
  refine MM.of (by decide) (Nat.le_of_ble_eq_true rfl) ?_
  intro p e s m args below meth c X hr hnm
  refine V.to (lv2 := [(0, .ref a0)]) [0] rfl rfl ?_
  unfold P_X2_readText at hP
  refine V_aload_n X dX2_readText_0 rfl 0 rfl ?_
  obtain ⟨h1, hP⟩ := hP
  refine V_callV_v X [] kw_RX2_26 ki_X2_advance ks_X2_advance ksg_X2_advance (m_X2_advance l G N0 _ _ _ hP) h1 (by decide) rfl rfl ⟨Nat.le_of_ble_eq_true rfl, Nat.le_of_ble_eq_true rfl⟩ (Nat.le_of_ble_eq_true rfl) ⟨Nat.le_of_ble_eq_true rfl, Nat.le_of_ble_eq_true rfl⟩ rfl dX2_readText_1 (fun σ1 hP => ?_)
  refine V_aload_n X dX2_readText_4 rfl 0 rfl ?_
  refine V_iconst X (v := (0 : Int32)) dX2_readText_5 (by decide) ?_
  obtain ⟨h2, hP⟩ := hP
  refine V_callV_i X [.int (0 : Int32)] kw_RX2_29 ki_X2_readPart ks_X2_readPart ksg_X2_readPart (m_X2_readPart l G N0 _ _ _ _ hP) h2 (by decide) rfl rfl ⟨Nat.le_of_ble_eq_true rfl, Nat.le_of_ble_eq_true rfl⟩ (Nat.le_of_ble_eq_true rfl) ⟨Nat.le_of_ble_eq_true rfl, Nat.le_of_ble_eq_true rfl⟩ rfl dX2_readText_6 (fun r2 σ2 hP => ?_)
  refine V_if_eq X (tgt := 23) dX2_readText_9 (by decide) (fun h3 => ?_) (fun h3 => ?_)
  · have hP := hP.1 h3
    refine V_iconst X (v := (0 : Int32)) dX2_readText_23 (by decide) ?_
    exact V_iret X hr (Or.inr ⟨rfl, Or.inl rfl⟩) (Nat.le_of_ble_eq_true rfl) (Nat.le_of_ble_eq_true rfl) dX2_readText_24 ⟨_, rfl, hP⟩
  · have hP := hP.2 h3
    refine V_aload_n X dX2_readText_12 rfl 0 rfl ?_
    obtain ⟨h4, hP⟩ := hP
    refine V_callV_i X [] kw_RX2_33 ki_X2_isAtEnd ks_X2_isAtEnd ksg_X2_isAtEnd (m_X2_isAtEnd l G N0 _ _ _ hP) h4 (by decide) rfl rfl ⟨Nat.le_of_ble_eq_true rfl, Nat.le_of_ble_eq_true rfl⟩ (Nat.le_of_ble_eq_true rfl) ⟨Nat.le_of_ble_eq_true rfl, Nat.le_of_ble_eq_true rfl⟩ rfl dX2_readText_13 (fun r3 σ3 hP => ?_)
    refine V_if_eq X (tgt := 23) dX2_readText_16 (by decide) (fun h5 => ?_) (fun h5 => ?_)
    · have hP := hP.1 h5
      refine V_iconst X (v := (0 : Int32)) dX2_readText_23 (by decide) ?_
      exact V_iret X hr (Or.inr ⟨rfl, Or.inl rfl⟩) (Nat.le_of_ble_eq_true rfl) (Nat.le_of_ble_eq_true rfl) dX2_readText_24 ⟨_, rfl, hP⟩
    · have hP := hP.2 h5
      refine V_iconst X (v := (1 : Int32)) dX2_readText_19 (by decide) ?_
      refine V_goto X (tgt := 24) dX2_readText_20 (by decide) ?_
      exact V_iret X hr (Or.inr ⟨rfl, Or.inr rfl⟩) (Nat.le_of_ble_eq_true rfl) (Nat.le_of_ble_eq_true rfl) dX2_readText_24 ⟨_, rfl, hP⟩
def P_X3_init (a0 : Nat) (x1 : Int32) (σ : Hp) (post : Hp → Prop) : Prop :=
  ∀ q1 : Nat, gk σ q1 = none → P_X1_init q1 (nw σ q1 1 0) (fun (σ2 : Hp) => gk σ2 a0 = some (3, 0) ∧ post (si (sr σ2 a0 1 (some q1)) a0 0 x1))
set_option maxHeartbeats 2000000 in
set_option maxRecDepth 100000 in
theorem m_X3_init (l : Launch) (G : GG) (N0 : Nat) (a0 : Nat) (x1 : Int32) (σ : Hp) (post : Hp → Prop) (hP : P_X3_init a0 x1 σ post) : MM l G N0 yX3_init cX3_init 2 none (2) (40) 2 603 [.ref a0, .int x1] σ (pV post) := by
  refine MM.of (by decide) (Nat.le_of_ble_eq_true rfl) ?_
  intro p e s m args below meth c X hr hnm
  refine V.to (lv2 := [(0, .ref a0), (1, .int x1)]) [0, 1] rfl rfl ?_
  unfold P_X3_init at hP
  refine V_aload_n X dX3_init_0 rfl 0 rfl ?_
  refine V_objInit X kl_RX3_1 ko_inst ko_code (Nat.le_of_ble_eq_true rfl) ⟨Nat.le_of_ble_eq_true rfl, Nat.le_of_ble_eq_true rfl⟩ dX3_init_1 ?_
  refine V_aload_n X dX3_init_4 rfl 0 rfl ?_
  refine V_new X (t := 1) kp_RX3_7 (by decide) (by decide) dX3_init_5 (fun q1 h1 => ?_)
  have hP := hP q1 h1
  have h2 : gk (nw σ q1 1 0) q1 = _ := gk_new
  refine V_dup X dX3_init_8 rfl ?_
  refine V_callIN_v X [] kw_RX3_9 ki_X1_init rfl (m_X1_init l G N0 _ _ _ hP) rfl ⟨Nat.le_of_ble_eq_true rfl, Nat.le_of_ble_eq_true rfl⟩ (Nat.le_of_ble_eq_true rfl) ⟨Nat.le_of_ble_eq_true rfl, Nat.le_of_ble_eq_true rfl⟩ rfl dX3_init_9 (fun σ2 hP => ?_)
  obtain ⟨h3, hP⟩ := hP
  refine V_putr X (v := (some q1)) kf_RX3_10 (fun _ => ⟨hnm, rfl⟩) rfl h3 (Or.inl ⟨_, rfl⟩) dX3_init_12 ?_
  refine V_aload_n X dX3_init_15 rfl 0 rfl ?_
  refine V_iload_n X dX3_init_16 rfl 1 rfl ?_
  refine V_puti X kf_RX3_16 (fun _ => ⟨hnm, rfl⟩) rfl h3 (Or.inl rfl) dX3_init_17 ?_
  exact V_vret X hr (Nat.le_of_ble_eq_true rfl) (Nat.le_of_ble_eq_true rfl) dX3_init_20 ⟨rfl, hP⟩
def P_X4_init (a0 : Nat) (x1 : Int32) (x2 : Int32) (x3 : Int32) (x4 : Int32) (x5 : Int32) (x6 : Int32) (σ : Hp) (post : Hp → Prop) : Prop :=
  gk σ a0 = some (4, 0) ∧ (x6 = 0 ∨ x6 = 1) ∧ post (si (si (si (si (si (si σ a0 0 x1) a0 1 x2) a0 2 x3) a0 3 x4) a0 4 x5) a0 5 x6)
set_option maxHeartbeats 2000000 in
set_option maxRecDepth 100000 in
theorem m_X4_init (l : Launch) (G : GG) (N0 : Nat) (a0 : Nat) (x1 : Int32) (x2 : Int32) (x3 : Int32) (x4 : Int32) (x5 : Int32) (x6 : Int32) (σ : Hp) (post : Hp → Prop) (hP : P_X4_init a0 x1 x2 x3 x4 x5 x6 σ post) : MM l G N0 yX4_init cX4_init 7 none (1) (20) 0 0 [.ref a0, .int x1, .int x2, .int x3, .int x4, .int x5, .int x6] σ (pV post) := by
  refine MM.of (by decide) (Nat.le_of_ble_eq_true rfl) ?_
  intro p e s m args below meth c X hr hnm
  refine V.to (lv2 := [(0, .ref a0), (1, .int x1), (2, .int x2), (3, .int x3), (4, .int x4), (5, .int x5), (6, .int x6)]) [0, 1, 2, 3, 4, 5, 6] rfl rfl ?_
  unfold P_X4_init at hP
  refine V_aload_n X dX4_init_0 rfl 0 rfl ?_
  refine V_objInit X kl_RX4_1 ko_inst ko_code (Nat.le_of_ble_eq_true rfl) ⟨Nat.le_of_ble_eq_true rfl, Nat.le_of_ble_eq_true rfl⟩ dX4_init_1 ?_
  refine V_aload_n X dX4_init_4 rfl 0 rfl ?_
  refine V_iload_n X dX4_init_5 rfl 1 rfl ?_
  obtain ⟨h1, hP⟩ := hP
  refine V_puti X kf_RX4_7 (fun _ => ⟨hnm, rfl⟩) rfl h1 (Or.inl rfl) dX4_init_6 ?_
  refine V_aload_n X dX4_init_9 rfl 0 rfl ?_
  refine V_iload_n X dX4_init_10 rfl 2 rfl ?_
  refine V_puti X kf_RX4_13 (fun _ => ⟨hnm, rfl⟩) rfl h1 (Or.inl rfl) dX4_init_11 ?_
  refine V_aload_n X dX4_init_14 rfl 0 rfl ?_
  refine V_iload_n X dX4_init_15 rfl 3 rfl ?_
  refine V_puti X kf_RX4_16 (fun _ => ⟨hnm, rfl⟩) rfl h1 (Or.inl rfl) dX4_init_16 ?_
  refine V_aload_n X dX4_init_19 rfl 0 rfl ?_
  refine V_iload X dX4_init_20 4 rfl ?_
  refine V_puti X kf_RX4_19 (fun _ => ⟨hnm, rfl⟩) rfl h1 (Or.inl rfl) dX4_init_22 ?_
  refine V_aload_n X dX4_init_25 rfl 0 rfl ?_
  refine V_iload X dX4_init_26 5 rfl ?_
  refine V_puti X kf_RX4_22 (fun _ => ⟨hnm, rfl⟩) rfl h1 (Or.inl rfl) dX4_init_28 ?_
  refine V_aload_n X dX4_init_31 rfl 0 rfl ?_
  refine V_iload X dX4_init_32 6 rfl ?_
  obtain ⟨h2, hP⟩ := hP
  refine V_puti X kf_RX4_25 (fun _ => ⟨hnm, rfl⟩) rfl h1 (Or.inr ⟨rfl, h2⟩) dX4_init_34 ?_
  exact V_vret X hr (Nat.le_of_ble_eq_true rfl) (Nat.le_of_ble_eq_true rfl) dX4_init_37 ⟨rfl, hP⟩
def P_X4_gone (a0 : Nat) (σ : Hp) (post : Option Nat → Hp → Prop) : Prop :=
  ∀ q1 : Nat, gk σ q1 = none → gk (nw σ q1 4 0) a0 = some (4, 0) ∧ P_X4_init q1 (gi (nw σ q1 4 0) a0 0) (gi (nw σ q1 4 0) a0 1) (gi (nw σ q1 4 0) a0 2) (gi (nw σ q1 4 0) a0 3) (gi (nw σ q1 4 0) a0 4) (0 : Int32) (nw σ q1 4 0) (fun (σ2 : Hp) => post (some q1) σ2)
set_option maxHeartbeats 2000000 in
set_option maxRecDepth 100000 in
theorem m_X4_gone (l : Launch) (G : GG) (N0 : Nat) (a0 : Nat) (σ : Hp) (post : Option Nat → Hp → Prop) (hP : P_X4_gone a0 σ post) : MM l G N0 yX4_gone cX4_gone 1 (some (.object "PaperRows$Row")) (2) (46) 1 6 [.ref a0] σ (pR post) := by
  refine MM.of (by decide) (Nat.le_of_ble_eq_true rfl) ?_
  intro p e s m args below meth c X hr hnm
  refine V.to (lv2 := [(0, .ref a0)]) [0] rfl rfl ?_
  unfold P_X4_gone at hP
  refine V_new X (t := 4) kp_RX4_8 (by decide) (by decide) dX4_gone_0 (fun q1 h1 => ?_)
  have hP := hP q1 h1
  have h2 : gk (nw σ q1 4 0) q1 = _ := gk_new
  refine V_dup X dX4_gone_3 rfl ?_
  refine V_aload_n X dX4_gone_4 rfl 0 rfl ?_
  obtain ⟨h3, hP⟩ := hP
  refine V_geti X kf_RX4_7 rfl h3 dX4_gone_5 ?_
  refine V_aload_n X dX4_gone_8 rfl 0 rfl ?_
  refine V_geti X kf_RX4_13 rfl h3 dX4_gone_9 ?_
  refine V_aload_n X dX4_gone_12 rfl 0 rfl ?_
  refine V_geti X kf_RX4_16 rfl h3 dX4_gone_13 ?_
  refine V_aload_n X dX4_gone_16 rfl 0 rfl ?_
  refine V_geti X kf_RX4_19 rfl h3 dX4_gone_17 ?_
  refine V_aload_n X dX4_gone_20 rfl 0 rfl ?_
  refine V_geti X kf_RX4_22 rfl h3 dX4_gone_21 ?_
  refine V_iconst X (v := (0 : Int32)) dX4_gone_24 (by decide) ?_
  refine V_callI_v X [.int (gi (nw σ q1 4 0) a0 0), .int (gi (nw σ q1 4 0) a0 1), .int (gi (nw σ q1 4 0) a0 2), .int (gi (nw σ q1 4 0) a0 3), .int (gi (nw σ q1 4 0) a0 4), .int (0 : Int32)] kw_RX4_29 ki_X4_init rfl (m_X4_init l G N0 _ _ _ _ _ _ _ _ _ hP) rfl ⟨Nat.le_of_ble_eq_true rfl, Nat.le_of_ble_eq_true rfl⟩ (Nat.le_of_ble_eq_true rfl) ⟨Nat.le_of_ble_eq_true rfl, Nat.le_of_ble_eq_true rfl⟩ rfl dX4_gone_25 (fun σ2 hP => ?_)
  exact V_aret X (v := (some q1)) hr (Or.inl ⟨_, rfl⟩) (Nat.le_of_ble_eq_true rfl) (Nat.le_of_ble_eq_true rfl) dX4_gone_28 ⟨_, rfl, hP⟩
def P_X4_withReference (a0 : Nat) (x1 : Int32) (x2 : Int32) (σ : Hp) (post : Option Nat → Hp → Prop) : Prop :=
  ∀ q1 : Nat, gk σ q1 = none → gk (nw σ q1 4 0) a0 = some (4, 0) ∧ (¬ x1 = 0 → (¬ x1 = (1 : Int32) → P_X4_init q1 (gi (nw σ q1 4 0) a0 0) (gi (nw σ q1 4 0) a0 1) (gi (nw σ q1 4 0) a0 2) (gi (nw σ q1 4 0) a0 3) (gi (nw σ q1 4 0) a0 4) (gi (nw σ q1 4 0) a0 5) (nw σ q1 4 0) (fun (σ2 : Hp) => post (some q1) σ2)) ∧ (x1 = (1 : Int32) → P_X4_init q1 (gi (nw σ q1 4 0) a0 0) (gi (nw σ q1 4 0) a0 1) (gi (nw σ q1 4 0) a0 2) (gi (nw σ q1 4 0) a0 3) x2 (gi (nw σ q1 4 0) a0 5) (nw σ q1 4 0) (fun (σ3 : Hp) => post (some q1) σ3))) ∧ (x1 = 0 → (¬ x1 = (1 : Int32) → P_X4_init q1 (gi (nw σ q1 4 0) a0 0) (gi (nw σ q1 4 0) a0 1) (gi (nw σ q1 4 0) a0 2) x2 (gi (nw σ q1 4 0) a0 4) (gi (nw σ q1 4 0) a0 5) (nw σ q1 4 0) (fun (σ4 : Hp) => post (some q1) σ4)) ∧ (x1 = (1 : Int32) → P_X4_init q1 (gi (nw σ q1 4 0) a0 0) (gi (nw σ q1 4 0) a0 1) (gi (nw σ q1 4 0) a0 2) x2 x2 (gi (nw σ q1 4 0) a0 5) (nw σ q1 4 0) (fun (σ5 : Hp) => post (some q1) σ5)))
set_option maxHeartbeats 2000000 in
set_option maxRecDepth 100000 in
theorem m_X4_withReference (l : Launch) (G : GG) (N0 : Nat) (a0 : Nat) (x1 : Int32) (x2 : Int32) (σ : Hp) (post : Option Nat → Hp → Prop) (hP : P_X4_withReference a0 x1 x2 σ post) : MM l G N0 yX4_withReference cX4_withReference 3 (some (.object "PaperRows$Row")) (2) (46) 1 6 [.ref a0, .int x1, .int x2] σ (pR post) := by
  refine MM.of (by decide) (Nat.le_of_ble_eq_true rfl) ?_
  intro p e s m args below meth c X hr hnm
  refine V.to (lv2 := [(0, .ref a0), (1, .int x1), (2, .int x2)]) [0, 1, 2] rfl rfl ?_
  unfold P_X4_withReference at hP
  refine V_new X (t := 4) kp_RX4_8 (by decide) (by decide) dX4_withReference_0 (fun q1 h1 => ?_)
  have hP := hP q1 h1
  have h2 : gk (nw σ q1 4 0) q1 = _ := gk_new
  refine V_dup X dX4_withReference_3 rfl ?_
  refine V_aload_n X dX4_withReference_4 rfl 0 rfl ?_
  obtain ⟨h3, hP⟩ := hP
  refine V_geti X kf_RX4_7 rfl h3 dX4_withReference_5 ?_
  refine V_aload_n X dX4_withReference_8 rfl 0 rfl ?_
  refine V_geti X kf_RX4_13 rfl h3 dX4_withReference_9 ?_
  refine V_aload_n X dX4_withReference_12 rfl 0 rfl ?_
  refine V_geti X kf_RX4_16 rfl h3 dX4_withReference_13 ?_
  refine V_iload_n X dX4_withReference_16 rfl 1 rfl ?_
  refine V_if_ne X (tgt := 24) dX4_withReference_17 (by decide) (fun h4 => ?_) (fun h4 => ?_)
  · have hP := hP.1 h4
    refine V_aload_n X dX4_withReference_24 rfl 0 rfl ?_
    refine V_geti X kf_RX4_19 rfl h3 dX4_withReference_25 ?_
    refine V_iload_n X dX4_withReference_28 rfl 1 rfl ?_
    refine V_iconst X (v := (1 : Int32)) dX4_withReference_29 (by decide) ?_
    refine V_icmp_ne X (tgt := 37) dX4_withReference_30 (by decide) (fun h5 => ?_) (fun h5 => ?_)
    · have hP := hP.1 h5
      refine V_aload_n X dX4_withReference_37 rfl 0 rfl ?_
      refine V_geti X kf_RX4_22 rfl h3 dX4_withReference_38 ?_
      refine V_aload_n X dX4_withReference_41 rfl 0 rfl ?_
      refine V_geti X kf_RX4_25 rfl h3 dX4_withReference_42 ?_
      refine V_callI_v X [.int (gi (nw σ q1 4 0) a0 0), .int (gi (nw σ q1 4 0) a0 1), .int (gi (nw σ q1 4 0) a0 2), .int (gi (nw σ q1 4 0) a0 3), .int (gi (nw σ q1 4 0) a0 4), .int (gi (nw σ q1 4 0) a0 5)] kw_RX4_29 ki_X4_init rfl (m_X4_init l G N0 _ _ _ _ _ _ _ _ _ hP) rfl ⟨Nat.le_of_ble_eq_true rfl, Nat.le_of_ble_eq_true rfl⟩ (Nat.le_of_ble_eq_true rfl) ⟨Nat.le_of_ble_eq_true rfl, Nat.le_of_ble_eq_true rfl⟩ rfl dX4_withReference_45 (fun σ2 hP => ?_)
      exact V_aret X (v := (some q1)) hr (Or.inl ⟨_, rfl⟩) (Nat.le_of_ble_eq_true rfl) (Nat.le_of_ble_eq_true rfl) dX4_withReference_48 ⟨_, rfl, hP⟩
    · have hP := hP.2 h5
      refine V_iload_n X dX4_withReference_33 rfl 2 rfl ?_
      refine V_goto X (tgt := 41) dX4_withReference_34 (by decide) ?_
      refine V_aload_n X dX4_withReference_41 rfl 0 rfl ?_
      refine V_geti X kf_RX4_25 rfl h3 dX4_withReference_42 ?_
      refine V_callI_v X [.int (gi (nw σ q1 4 0) a0 0), .int (gi (nw σ q1 4 0) a0 1), .int (gi (nw σ q1 4 0) a0 2), .int (gi (nw σ q1 4 0) a0 3), .int x2, .int (gi (nw σ q1 4 0) a0 5)] kw_RX4_29 ki_X4_init rfl (m_X4_init l G N0 _ _ _ _ _ _ _ _ _ hP) rfl ⟨Nat.le_of_ble_eq_true rfl, Nat.le_of_ble_eq_true rfl⟩ (Nat.le_of_ble_eq_true rfl) ⟨Nat.le_of_ble_eq_true rfl, Nat.le_of_ble_eq_true rfl⟩ rfl dX4_withReference_45 (fun σ3 hP => ?_)
      exact V_aret X (v := (some q1)) hr (Or.inl ⟨_, rfl⟩) (Nat.le_of_ble_eq_true rfl) (Nat.le_of_ble_eq_true rfl) dX4_withReference_48 ⟨_, rfl, hP⟩
  · have hP := hP.2 h4
    refine V_iload_n X dX4_withReference_20 rfl 2 rfl ?_
    refine V_goto X (tgt := 28) dX4_withReference_21 (by decide) ?_
    refine V_iload_n X dX4_withReference_28 rfl 1 rfl ?_
    refine V_iconst X (v := (1 : Int32)) dX4_withReference_29 (by decide) ?_
    refine V_icmp_ne X (tgt := 37) dX4_withReference_30 (by decide) (fun h6 => ?_) (fun h6 => ?_)
    · have hP := hP.1 h6
      refine V_aload_n X dX4_withReference_37 rfl 0 rfl ?_
      refine V_geti X kf_RX4_22 rfl h3 dX4_withReference_38 ?_
      refine V_aload_n X dX4_withReference_41 rfl 0 rfl ?_
      refine V_geti X kf_RX4_25 rfl h3 dX4_withReference_42 ?_
      refine V_callI_v X [.int (gi (nw σ q1 4 0) a0 0), .int (gi (nw σ q1 4 0) a0 1), .int (gi (nw σ q1 4 0) a0 2), .int x2, .int (gi (nw σ q1 4 0) a0 4), .int (gi (nw σ q1 4 0) a0 5)] kw_RX4_29 ki_X4_init rfl (m_X4_init l G N0 _ _ _ _ _ _ _ _ _ hP) rfl ⟨Nat.le_of_ble_eq_true rfl, Nat.le_of_ble_eq_true rfl⟩ (Nat.le_of_ble_eq_true rfl) ⟨Nat.le_of_ble_eq_true rfl, Nat.le_of_ble_eq_true rfl⟩ rfl dX4_withReference_45 (fun σ4 hP => ?_)
      exact V_aret X (v := (some q1)) hr (Or.inl ⟨_, rfl⟩) (Nat.le_of_ble_eq_true rfl) (Nat.le_of_ble_eq_true rfl) dX4_withReference_48 ⟨_, rfl, hP⟩
    · have hP := hP.2 h6
      refine V_iload_n X dX4_withReference_33 rfl 2 rfl ?_
      refine V_goto X (tgt := 41) dX4_withReference_34 (by decide) ?_
      refine V_aload_n X dX4_withReference_41 rfl 0 rfl ?_
      refine V_geti X kf_RX4_25 rfl h3 dX4_withReference_42 ?_
      refine V_callI_v X [.int (gi (nw σ q1 4 0) a0 0), .int (gi (nw σ q1 4 0) a0 1), .int (gi (nw σ q1 4 0) a0 2), .int x2, .int x2, .int (gi (nw σ q1 4 0) a0 5)] kw_RX4_29 ki_X4_init rfl (m_X4_init l G N0 _ _ _ _ _ _ _ _ _ hP) rfl ⟨Nat.le_of_ble_eq_true rfl, Nat.le_of_ble_eq_true rfl⟩ (Nat.le_of_ble_eq_true rfl) ⟨Nat.le_of_ble_eq_true rfl, Nat.le_of_ble_eq_true rfl⟩ rfl dX4_withReference_45 (fun σ5 hP => ?_)
      exact V_aret X (v := (some q1)) hr (Or.inl ⟨_, rfl⟩) (Nat.le_of_ble_eq_true rfl) (Nat.le_of_ble_eq_true rfl) dX4_withReference_48 ⟨_, rfl, hP⟩
def P_X4_withValue (a0 : Nat) (x1 : Int32) (σ : Hp) (post : Option Nat → Hp → Prop) : Prop :=
  ∀ q1 : Nat, gk σ q1 = none → gk (nw σ q1 4 0) a0 = some (4, 0) ∧ P_X4_init q1 (gi (nw σ q1 4 0) a0 0) (gi (nw σ q1 4 0) a0 1) x1 (gi (nw σ q1 4 0) a0 3) (gi (nw σ q1 4 0) a0 4) (gi (nw σ q1 4 0) a0 5) (nw σ q1 4 0) (fun (σ2 : Hp) => post (some q1) σ2)
set_option maxHeartbeats 2000000 in
set_option maxRecDepth 100000 in
theorem m_X4_withValue (l : Launch) (G : GG) (N0 : Nat) (a0 : Nat) (x1 : Int32) (σ : Hp) (post : Option Nat → Hp → Prop) (hP : P_X4_withValue a0 x1 σ post) : MM l G N0 yX4_withValue cX4_withValue 2 (some (.object "PaperRows$Row")) (2) (46) 1 6 [.ref a0, .int x1] σ (pR post) := by
  refine MM.of (by decide) (Nat.le_of_ble_eq_true rfl) ?_
  intro p e s m args below meth c X hr hnm
  refine V.to (lv2 := [(0, .ref a0), (1, .int x1)]) [0, 1] rfl rfl ?_
  unfold P_X4_withValue at hP
  refine V_new X (t := 4) kp_RX4_8 (by decide) (by decide) dX4_withValue_0 (fun q1 h1 => ?_)
  have hP := hP q1 h1
  have h2 : gk (nw σ q1 4 0) q1 = _ := gk_new
  refine V_dup X dX4_withValue_3 rfl ?_
  refine V_aload_n X dX4_withValue_4 rfl 0 rfl ?_
  obtain ⟨h3, hP⟩ := hP
  refine V_geti X kf_RX4_7 rfl h3 dX4_withValue_5 ?_
  refine V_aload_n X dX4_withValue_8 rfl 0 rfl ?_
  refine V_geti X kf_RX4_13 rfl h3 dX4_withValue_9 ?_
  refine V_iload_n X dX4_withValue_12 rfl 1 rfl ?_
  refine V_aload_n X dX4_withValue_13 rfl 0 rfl ?_
  refine V_geti X kf_RX4_19 rfl h3 dX4_withValue_14 ?_
  refine V_aload_n X dX4_withValue_17 rfl 0 rfl ?_
  refine V_geti X kf_RX4_22 rfl h3 dX4_withValue_18 ?_
  refine V_aload_n X dX4_withValue_21 rfl 0 rfl ?_
  refine V_geti X kf_RX4_25 rfl h3 dX4_withValue_22 ?_
  refine V_callI_v X [.int (gi (nw σ q1 4 0) a0 0), .int (gi (nw σ q1 4 0) a0 1), .int x1, .int (gi (nw σ q1 4 0) a0 3), .int (gi (nw σ q1 4 0) a0 4), .int (gi (nw σ q1 4 0) a0 5)] kw_RX4_29 ki_X4_init rfl (m_X4_init l G N0 _ _ _ _ _ _ _ _ _ hP) rfl ⟨Nat.le_of_ble_eq_true rfl, Nat.le_of_ble_eq_true rfl⟩ (Nat.le_of_ble_eq_true rfl) ⟨Nat.le_of_ble_eq_true rfl, Nat.le_of_ble_eq_true rfl⟩ rfl dX4_withValue_25 (fun σ2 hP => ?_)
  exact V_aret X (v := (some q1)) hr (Or.inl ⟨_, rfl⟩) (Nat.le_of_ble_eq_true rfl) (Nat.le_of_ble_eq_true rfl) dX4_withValue_28 ⟨_, rfl, hP⟩
def F_X5_clear_2 (a0 : Nat) (post : Hp → Prop) (I2 : Int32 → Hp → Prop) (v1 : Int32) (σ2 : Hp) : Prop :=
  gk σ2 a0 = some (5, 0) ∧ ∃ b201 : Nat, (gr σ2 a0 0) = some b201 ∧ ∃ n202 : Nat, gk σ2 b201 = some (13, n202) ∧ ((Int32.ofNat n202) ≤ v1 → post (si σ2 a0 1 (0 : Int32))) ∧ (¬ ((Int32.ofNat n202) ≤ v1) → vp_in v1 n202 ∧ I2 (v1 + (1 : Int32)) (sr σ2 b201 (Int32.toNatClampNeg v1) (none : Option Nat)))
def P_X5_clear (a0 : Nat) (σ : Hp) (post : Hp → Prop) : Prop :=
  lfp1 (F_X5_clear_2 a0 post) (0 : Int32) σ
set_option maxHeartbeats 2000000 in
set_option maxRecDepth 100000 in
theorem m_X5_clear (l : Launch) (G : GG) (N0 : Nat) (a0 : Nat) (σ : Hp) (post : Hp → Prop) (hP : P_X5_clear a0 σ post) : MM l G N0 yX5_clear cX5_clear 2 none (0) (0) 0 0 [.ref a0] σ (pV post) := by
  refine MM.of (by decide) (Nat.le_of_ble_eq_true rfl) ?_
  intro p e s m args below meth c X hr hnm
  refine V.to (lv2 := [(0, .ref a0)]) [0] rfl rfl ?_
  unfold P_X5_clear at hP
  refine V_iconst X (v := (0 : Int32)) dX5_clear_0 (by decide) ?_
  refine V_istore_n X (lv' := [(1, .int (0 : Int32)), (0, .ref a0)]) dX5_clear_1 rfl (by decide) rfl ?_
  refine V.to (lv2 := [(0, .ref a0), (1, .int (0 : Int32))]) [1, 0] rfl rfl ?_
  refine lfp1_use (fun v1 σ2 => V p l e { frames := 0, cells := 0, slots := 0, locals := 0 } s m args below meth c (MQ below (QC G N0 (pV post)) args s 0 0 (AN N0)) G N0 2 σ2 0 0 2 [(0, .ref a0), (1, .int v1)] []) hP ?_
  intro v1 σ2 hP
  unfold F_X5_clear_2 at hP
  refine V_iload_n X dX5_clear_2 rfl 1 rfl ?_
  refine V_aload_n X dX5_clear_3 rfl 0 rfl ?_
  obtain ⟨h2001, hP⟩ := hP
  refine V_getr X kf_RX5_11 rfl h2001 dX5_clear_4 ?_
  obtain ⟨b201, h2002, hP⟩ := hP
  refine V_dr0 h2002 ?_
  obtain ⟨n202, h2003, hP⟩ := hP
  refine V_alen X (Or.inr (Or.inr (Or.inr rfl))) h2003 dX5_clear_7 ?_
  refine V_icmp_ge X (tgt := 24) dX5_clear_8 (by decide) (fun h2004 => ?_) (fun h2004 => ?_)
  · have hP := hP.1 h2004
    refine V_aload_n X dX5_clear_24 rfl 0 rfl ?_
    refine V_iconst X (v := (0 : Int32)) dX5_clear_25 (by decide) ?_
    refine V_puti X kf_RX5_17 (fun h => by cases h) rfl h2001 (Or.inl rfl) dX5_clear_26 ?_
    exact V_vret X hr (Nat.le_of_ble_eq_true rfl) (Nat.le_of_ble_eq_true rfl) dX5_clear_29 ⟨rfl, hP⟩
  · have hP := hP.2 h2004
    refine V_aload_n X dX5_clear_11 rfl 0 rfl ?_
    refine V_getr X kf_RX5_11 rfl h2001 dX5_clear_12 ?_
    refine V_iload_n X dX5_clear_15 rfl 1 rfl ?_
    refine V_null X dX5_clear_16 ?_
    refine V_dr2 h2002 ?_
    obtain ⟨h2005, hP⟩ := hP
    refine V_aast X (x := (none : Option Nat)) (Or.inr ⟨rfl, rfl⟩) h2003 h2005 (fun _ h => by cases h) dX5_clear_17 ?_
    refine V_iinc X (v := (v1 + (1 : Int32))) (lv' := [(1, .int (v1 + (1 : Int32))), (0, .ref a0)]) dX5_clear_18 1 rfl rfl (by decide) rfl ?_
    refine V_goto X (tgt := 2) dX5_clear_21 (by decide) ?_
    exact V.to [1, 0] rfl rfl hP
def P_X5_init (a0 : Nat) (σ : Hp) (post : Hp → Prop) : Prop :=
  ∀ q1 : Nat, gk σ q1 = none → gk (nw σ q1 13 60) a0 = some (5, 0) ∧ post (si (sr (nw σ q1 13 60) a0 0 (some q1)) a0 1 (0 : Int32))
set_option maxHeartbeats 2000000 in
set_option maxRecDepth 100000 in
theorem m_X5_init (l : Launch) (G : GG) (N0 : Nat) (a0 : Nat) (σ : Hp) (post : Hp → Prop) (hP : P_X5_init a0 σ post) : MM l G N0 yX5_init cX5_init 1 none (1) (20) 1 60 [.ref a0] σ (pV post) := by
  refine MM.of (by decide) (Nat.le_of_ble_eq_true rfl) ?_
  intro p e s m args below meth c X hr hnm
  refine V.to (lv2 := [(0, .ref a0)]) [0] rfl rfl ?_
  unfold P_X5_init at hP
  refine V_aload_n X dX5_init_0 rfl 0 rfl ?_
  refine V_objInit X kl_RX5_3 ko_inst ko_code (Nat.le_of_ble_eq_true rfl) ⟨Nat.le_of_ble_eq_true rfl, Nat.le_of_ble_eq_true rfl⟩ dX5_init_1 ?_
  refine V_aload_n X dX5_init_4 rfl 0 rfl ?_
  refine V_bipush X (v := (60 : Int32)) dX5_init_5 (by decide) ?_
  refine V_newq X (N := 60) (t := 13) (Or.inr ⟨rfl, rfl⟩) kq_RX5_9 (by decide) (by decide) (by decide) (Nat.le_of_ble_eq_true rfl) (Nat.le_of_ble_eq_true rfl) dX5_init_7 (fun q1 h1 => ?_)
  have hP := hP q1 h1
  have h2 : gk (nw σ q1 13 60) q1 = _ := gk_new
  obtain ⟨h3, hP⟩ := hP
  refine V_putr X (v := (some q1)) kf_RX5_11 (fun _ => ⟨hnm, rfl⟩) rfl h3 (Or.inr ⟨_, rfl⟩) dX5_init_10 ?_
  refine V_aload_n X dX5_init_13 rfl 0 rfl ?_
  refine V_iconst X (v := (0 : Int32)) dX5_init_14 (by decide) ?_
  refine V_puti X kf_RX5_17 (fun h => by cases h) rfl h3 (Or.inl rfl) dX5_init_15 ?_
  exact V_vret X hr (Nat.le_of_ble_eq_true rfl) (Nat.le_of_ble_eq_true rfl) dX5_init_18 ⟨rfl, hP⟩
def P_X5_isFull (a0 : Nat) (σ : Hp) (post : Int32 → Hp → Prop) : Prop :=
  gk σ a0 = some (5, 0) ∧ ∃ b1 : Nat, (gr σ a0 0) = some b1 ∧ ∃ n2 : Nat, gk σ b1 = some (13, n2) ∧ ((gi σ a0 1) < (Int32.ofNat n2) → post (0 : Int32) σ) ∧ (¬ ((gi σ a0 1) < (Int32.ofNat n2)) → post (1 : Int32) σ)
set_option maxHeartbeats 2000000 in
set_option maxRecDepth 100000 in
theorem m_X5_isFull (l : Launch) (G : GG) (N0 : Nat) (a0 : Nat) (σ : Hp) (post : Int32 → Hp → Prop) (hP : P_X5_isFull a0 σ post) : MM l G N0 yX5_isFull cX5_isFull 1 (some .boolean) (0) (0) 0 0 [.ref a0] σ (pI post) := by
  refine MM.of (by decide) (Nat.le_of_ble_eq_true rfl) ?_
  intro p e s m args below meth c X hr hnm
  refine V.to (lv2 := [(0, .ref a0)]) [0] rfl rfl ?_
  unfold P_X5_isFull at hP
  refine V_aload_n X dX5_isFull_0 rfl 0 rfl ?_
  obtain ⟨h1, hP⟩ := hP
  refine V_geti X kf_RX5_17 rfl h1 dX5_isFull_1 ?_
  refine V_aload_n X dX5_isFull_4 rfl 0 rfl ?_
  refine V_getr X kf_RX5_11 rfl h1 dX5_isFull_5 ?_
  obtain ⟨b1, h2, hP⟩ := hP
  refine V_dr0 h2 ?_
  obtain ⟨n2, h3, hP⟩ := hP
  refine V_alen X (Or.inr (Or.inr (Or.inr rfl))) h3 dX5_isFull_8 ?_
  refine V_icmp_lt X (tgt := 16) dX5_isFull_9 (by decide) (fun h4 => ?_) (fun h4 => ?_)
  · have hP := hP.1 h4
    refine V_iconst X (v := (0 : Int32)) dX5_isFull_16 (by decide) ?_
    exact V_iret X hr (Or.inr ⟨rfl, Or.inl rfl⟩) (Nat.le_of_ble_eq_true rfl) (Nat.le_of_ble_eq_true rfl) dX5_isFull_17 ⟨_, rfl, hP⟩
  · have hP := hP.2 h4
    refine V_iconst X (v := (1 : Int32)) dX5_isFull_12 (by decide) ?_
    refine V_goto X (tgt := 17) dX5_isFull_13 (by decide) ?_
    exact V_iret X hr (Or.inr ⟨rfl, Or.inr rfl⟩) (Nat.le_of_ble_eq_true rfl) (Nat.le_of_ble_eq_true rfl) dX5_isFull_17 ⟨_, rfl, hP⟩
def F_X5_standingOnes_4 (a0 : Nat) (post : Int32 → Hp → Prop) (I4 : Int32 → Int32 → Hp → Prop) (v1 : Int32) (v2 : Int32) (σ4 : Hp) : Prop :=
  gk σ4 a0 = some (5, 0) ∧ ∃ b401 : Nat, (gr σ4 a0 0) = some b401 ∧ ∃ n402 : Nat, gk σ4 b401 = some (13, n402) ∧ ((Int32.ofNat n402) ≤ v2 → post v1 σ4) ∧ (¬ ((Int32.ofNat n402) ≤ v2) → P_X5_standing a0 v2 σ4 (fun (r403 : Option Nat) (σ403 : Hp) => (r403 = none → I4 v1 (v2 + (1 : Int32)) σ403) ∧ (∀ b404 : Nat, r403 = some b404 → I4 (v1 + (1 : Int32)) (v2 + (1 : Int32)) σ403)))
def P_X5_standingOnes (a0 : Nat) (σ : Hp) (post : Int32 → Hp → Prop) : Prop :=
  lfp2 (F_X5_standingOnes_4 a0 post) (0 : Int32) (0 : Int32) σ
set_option maxHeartbeats 2000000 in
set_option maxRecDepth 100000 in
theorem m_X5_standingOnes (l : Launch) (G : GG) (N0 : Nat) (a0 : Nat) (σ : Hp) (post : Int32 → Hp → Prop) (hP : P_X5_standingOnes a0 σ post) : MM l G N0 yX5_standingOnes cX5_standingOnes 3 (some .int) (2) (43) 0 0 [.ref a0] σ (pI post) := by
  refine MM.of (by decide) (Nat.le_of_ble_eq_true rfl) ?_
  intro p e s m args below meth c X hr hnm
  refine V.to (lv2 := [(0, .ref a0)]) [0] rfl rfl ?_
  unfold P_X5_standingOnes at hP
  refine V_iconst X (v := (0 : Int32)) dX5_standingOnes_0 (by decide) ?_
  refine V_istore_n X (lv' := [(1, .int (0 : Int32)), (0, .ref a0)]) dX5_standingOnes_1 rfl (by decide) rfl ?_
  refine V_iconst X (v := (0 : Int32)) dX5_standingOnes_2 (by decide) ?_
  refine V_istore_n X (lv' := [(2, .int (0 : Int32)), (1, .int (0 : Int32)), (0, .ref a0)]) dX5_standingOnes_3 rfl (by decide) rfl ?_
  refine V.to (lv2 := [(0, .ref a0), (1, .int (0 : Int32)), (2, .int (0 : Int32))]) [2, 1, 0] rfl rfl ?_
  refine lfp2_use (fun v1 v2 σ4 => V p l e { frames := 2, cells := 0, slots := 0, locals := 43 } s m args below meth c (MQ below (QC G N0 (pI post)) args s 0 0 (AN N0)) G N0 3 σ4 0 0 4 [(0, .ref a0), (1, .int v1), (2, .int v2)] []) hP ?_
  intro v1 v2 σ4 hP
  unfold F_X5_standingOnes_4 at hP
  refine V_iload_n X dX5_standingOnes_4 rfl 2 rfl ?_
  refine V_aload_n X dX5_standingOnes_5 rfl 0 rfl ?_
  obtain ⟨h4001, hP⟩ := hP
  refine V_getr X kf_RX5_11 rfl h4001 dX5_standingOnes_6 ?_
  obtain ⟨b401, h4002, hP⟩ := hP
  refine V_dr0 h4002 ?_
  obtain ⟨n402, h4003, hP⟩ := hP
  refine V_alen X (Or.inr (Or.inr (Or.inr rfl))) h4003 dX5_standingOnes_9 ?_
  refine V_icmp_ge X (tgt := 30) dX5_standingOnes_10 (by decide) (fun h4004 => ?_) (fun h4004 => ?_)
  · have hP := hP.1 h4004
    refine V_iload_n X dX5_standingOnes_30 rfl 1 rfl ?_
    exact V_iret X hr (Or.inl rfl) (Nat.le_of_ble_eq_true rfl) (Nat.le_of_ble_eq_true rfl) dX5_standingOnes_31 ⟨_, rfl, hP⟩
  · have hP := hP.2 h4004
    refine V_aload_n X dX5_standingOnes_13 rfl 0 rfl ?_
    refine V_iload_n X dX5_standingOnes_14 rfl 2 rfl ?_
    refine V_callV_r X [.int v2] kw_RX5_29 ki_X5_standing ks_X5_standing ksg_X5_standing (m_X5_standing l G N0 _ _ _ _ hP) h4001 (by decide) rfl rfl ⟨Nat.le_of_ble_eq_true rfl, Nat.le_of_ble_eq_true rfl⟩ (Nat.le_of_ble_eq_true rfl) ⟨Nat.le_of_ble_eq_true rfl, Nat.le_of_ble_eq_true rfl⟩ rfl dX5_standingOnes_15 (fun r403 σ403 hP => ?_)
    refine V_ifnull X (tgt := 24) dX5_standingOnes_18 (by decide) (fun h4005 => ?_) (fun b404 h4005 => ?_)
    · have hP := hP.1 h4005
      refine V_iinc X (v := (v2 + (1 : Int32))) (lv' := [(2, .int (v2 + (1 : Int32))), (0, .ref a0), (1, .int v1)]) dX5_standingOnes_24 2 rfl rfl (by decide) rfl ?_
      refine V_goto X (tgt := 4) dX5_standingOnes_27 (by decide) ?_
      exact V.to [1, 2, 0] rfl rfl hP
    · have hP := hP.2 b404 h4005
      refine V_iinc X (v := (v1 + (1 : Int32))) (lv' := [(1, .int (v1 + (1 : Int32))), (0, .ref a0), (2, .int v2)]) dX5_standingOnes_21 1 rfl rfl (by decide) rfl ?_
      refine V_iinc X (v := (v2 + (1 : Int32))) (lv' := [(2, .int (v2 + (1 : Int32))), (1, .int (v1 + (1 : Int32))), (0, .ref a0)]) dX5_standingOnes_24 2 rfl rfl (by decide) rfl ?_
      refine V_goto X (tgt := 4) dX5_standingOnes_27 (by decide) ?_
      exact V.to [2, 1, 0] rfl rfl hP
def F_X5_takeFrom_2 (a0 : Nat) (a1 : Nat) (post : Hp → Prop) (I2 : Int32 → Hp → Prop) (v2 : Int32) (σ2 : Hp) : Prop :=
  gk σ2 a0 = some (5, 0) ∧ ∃ b201 : Nat, (gr σ2 a0 0) = some b201 ∧ ∃ n202 : Nat, gk σ2 b201 = some (13, n202) ∧ ((Int32.ofNat n202) ≤ v2 → gk σ2 a1 = some (5, 0) ∧ post (si σ2 a0 1 (gi σ2 a1 1))) ∧ (¬ ((Int32.ofNat n202) ≤ v2) → gk σ2 a1 = some (5, 0) ∧ P_X5_at a1 v2 σ2 (fun (r203 : Option Nat) (σ203 : Hp) => ∃ n204 : Nat, gk σ203 b201 = some (13, n204) ∧ vp_in v2 n204 ∧ (∀ w9 : Nat, r203 = some w9 → gk σ203 w9 = some (4, 0)) ∧ I2 (v2 + (1 : Int32)) (sr σ203 b201 (Int32.toNatClampNeg v2) r203)))
def P_X5_takeFrom (a0 : Nat) (a1 : Nat) (σ : Hp) (post : Hp → Prop) : Prop :=
  lfp1 (F_X5_takeFrom_2 a0 a1 post) (0 : Int32) σ
set_option maxHeartbeats 2000000 in
set_option maxRecDepth 100000 in
theorem m_X5_takeFrom (l : Launch) (G : GG) (N0 : Nat) (a0 : Nat) (a1 : Nat) (σ : Hp) (post : Hp → Prop) (hP : P_X5_takeFrom a0 a1 σ post) : MM l G N0 yX5_takeFrom cX5_takeFrom 3 none (1) (21) 0 0 [.ref a0, .ref a1] σ (pV post) := by
  refine MM.of (by decide) (Nat.le_of_ble_eq_true rfl) ?_
  intro p e s m args below meth c X hr hnm
  refine V.to (lv2 := [(0, .ref a0), (1, .ref a1)]) [0, 1] rfl rfl ?_
  unfold P_X5_takeFrom at hP
  refine V_iconst X (v := (0 : Int32)) dX5_takeFrom_0 (by decide) ?_
  refine V_istore_n X (lv' := [(2, .int (0 : Int32)), (0, .ref a0), (1, .ref a1)]) dX5_takeFrom_1 rfl (by decide) rfl ?_
  refine V.to (lv2 := [(0, .ref a0), (1, .ref a1), (2, .int (0 : Int32))]) [1, 2, 0] rfl rfl ?_
  refine lfp1_use (fun v2 σ2 => V p l e { frames := 1, cells := 0, slots := 0, locals := 21 } s m args below meth c (MQ below (QC G N0 (pV post)) args s 0 0 (AN N0)) G N0 3 σ2 0 0 2 [(0, .ref a0), (1, .ref a1), (2, .int v2)] []) hP ?_
  intro v2 σ2 hP
  unfold F_X5_takeFrom_2 at hP
  refine V_iload_n X dX5_takeFrom_2 rfl 2 rfl ?_
  refine V_aload_n X dX5_takeFrom_3 rfl 0 rfl ?_
  obtain ⟨h2001, hP⟩ := hP
  refine V_getr X kf_RX5_11 rfl h2001 dX5_takeFrom_4 ?_
  obtain ⟨b201, h2002, hP⟩ := hP
  refine V_dr0 h2002 ?_
  obtain ⟨n202, h2003, hP⟩ := hP
  refine V_alen X (Or.inr (Or.inr (Or.inr rfl))) h2003 dX5_takeFrom_7 ?_
  refine V_icmp_ge X (tgt := 28) dX5_takeFrom_8 (by decide) (fun h2004 => ?_) (fun h2004 => ?_)
  · have hP := hP.1 h2004
    refine V_aload_n X dX5_takeFrom_28 rfl 0 rfl ?_
    refine V_aload_n X dX5_takeFrom_29 rfl 1 rfl ?_
    obtain ⟨h2005, hP⟩ := hP
    refine V_geti X kf_RX5_17 rfl h2005 dX5_takeFrom_30 ?_
    refine V_puti X kf_RX5_17 (fun h => by cases h) rfl h2001 (Or.inl rfl) dX5_takeFrom_33 ?_
    exact V_vret X hr (Nat.le_of_ble_eq_true rfl) (Nat.le_of_ble_eq_true rfl) dX5_takeFrom_36 ⟨rfl, hP⟩
  · have hP := hP.2 h2004
    refine V_aload_n X dX5_takeFrom_11 rfl 0 rfl ?_
    refine V_getr X kf_RX5_11 rfl h2001 dX5_takeFrom_12 ?_
    refine V_iload_n X dX5_takeFrom_15 rfl 2 rfl ?_
    refine V_aload_n X dX5_takeFrom_16 rfl 1 rfl ?_
    refine V_iload_n X dX5_takeFrom_17 rfl 2 rfl ?_
    obtain ⟨h2006, hP⟩ := hP
    refine V_callV_r X [.int v2] kw_RX5_21 ki_X5_at ks_X5_at ksg_X5_at (m_X5_at l G N0 _ _ _ _ hP) h2006 (by decide) rfl rfl ⟨Nat.le_of_ble_eq_true rfl, Nat.le_of_ble_eq_true rfl⟩ (by simp only [List.map_cons, vcat]; exact Nat.le_of_ble_eq_true rfl) ⟨Nat.le_of_ble_eq_true rfl, Nat.le_of_ble_eq_true rfl⟩ rfl dX5_takeFrom_18 (fun r203 σ203 hP => ?_)
    refine V_dr2 h2002 ?_
    obtain ⟨n204, h2007, hP⟩ := hP
    obtain ⟨h2008, hP⟩ := hP
    obtain ⟨h2009, hP⟩ := hP
    refine V_aast X (x := r203) (Or.inr ⟨rfl, rfl⟩) h2007 h2008 (fun v h => ⟨_, h2009 v h⟩) dX5_takeFrom_21 ?_
    refine V_iinc X (v := (v2 + (1 : Int32))) (lv' := [(2, .int (v2 + (1 : Int32))), (0, .ref a0), (1, .ref a1)]) dX5_takeFrom_22 2 rfl rfl (by decide) rfl ?_
    refine V_goto X (tgt := 2) dX5_takeFrom_25 (by decide) ?_
    exact V.to [1, 2, 0] rfl rfl hP
def P_X6_clear (a0 : Nat) (σ : Hp) (post : Hp → Prop) : Prop :=
  gk σ a0 = some (6, 0) ∧ post (si (si σ a0 5 (0 : Int32)) a0 6 (0 : Int32))
set_option maxHeartbeats 2000000 in
set_option maxRecDepth 100000 in
theorem m_X6_clear (l : Launch) (G : GG) (N0 : Nat) (a0 : Nat) (σ : Hp) (post : Hp → Prop) (hP : P_X6_clear a0 σ post) : MM l G N0 yX6_clear cX6_clear 1 none (0) (0) 0 0 [.ref a0] σ (pV post) := by
  refine MM.of (by decide) (Nat.le_of_ble_eq_true rfl) ?_
  intro p e s m args below meth c X hr hnm
  refine V.to (lv2 := [(0, .ref a0)]) [0] rfl rfl ?_
  unfold P_X6_clear at hP
  refine V_aload_n X dX6_clear_0 rfl 0 rfl ?_
  refine V_iconst X (v := (0 : Int32)) dX6_clear_1 (by decide) ?_
  obtain ⟨h1, hP⟩ := hP
  refine V_puti X kf_RX6_27 (fun h => by cases h) rfl h1 (Or.inl rfl) dX6_clear_2 ?_
  refine V_aload_n X dX6_clear_5 rfl 0 rfl ?_
  refine V_iconst X (v := (0 : Int32)) dX6_clear_6 (by decide) ?_
  refine V_puti X kf_RX6_31 (fun h => by cases h) rfl h1 (Or.inl rfl) dX6_clear_7 ?_
  exact V_vret X hr (Nat.le_of_ble_eq_true rfl) (Nat.le_of_ble_eq_true rfl) dX6_clear_10 ⟨rfl, hP⟩
def P_X6_init (a0 : Nat) (σ : Hp) (post : Hp → Prop) : Prop :=
  ∀ q1 : Nat, gk σ q1 = none → gk (nw σ q1 10 20) a0 = some (6, 0) ∧ ∀ q2 : Nat, gk (sr (nw σ q1 10 20) a0 0 (some q1)) q2 = none → ∀ q3 : Nat, gk (sr (nw (sr (nw σ q1 10 20) a0 0 (some q1)) q2 10 100) a0 1 (some q2)) q3 = none → ∀ q4 : Nat, gk (sr (nw (sr (nw (sr (nw σ q1 10 20) a0 0 (some q1)) q2 10 100) a0 1 (some q2)) q3 10 100) a0 2 (some q3)) q4 = none → ∀ q5 : Nat, gk (sr (nw (sr (nw (sr (nw (sr (nw σ q1 10 20) a0 0 (some q1)) q2 10 100) a0 1 (some q2)) q3 10 100) a0 2 (some q3)) q4 10 100) a0 3 (some q4)) q5 = none → post (si (si (sr (nw (sr (nw (sr (nw (sr (nw (sr (nw σ q1 10 20) a0 0 (some q1)) q2 10 100) a0 1 (some q2)) q3 10 100) a0 2 (some q3)) q4 10 100) a0 3 (some q4)) q5 10 100) a0 4 (some q5)) a0 5 (0 : Int32)) a0 6 (0 : Int32))
set_option maxHeartbeats 2000000 in
set_option maxRecDepth 100000 in
theorem m_X6_init (l : Launch) (G : GG) (N0 : Nat) (a0 : Nat) (σ : Hp) (post : Hp → Prop) (hP : P_X6_init a0 σ post) : MM l G N0 yX6_init cX6_init 1 none (1) (20) 5 420 [.ref a0] σ (pV post) := by
  refine MM.of (by decide) (Nat.le_of_ble_eq_true rfl) ?_
  intro p e s m args below meth c X hr hnm
  refine V.to (lv2 := [(0, .ref a0)]) [0] rfl rfl ?_
  unfold P_X6_init at hP
  refine V_aload_n X dX6_init_0 rfl 0 rfl ?_
  refine V_objInit X kl_RX6_3 ko_inst ko_code (Nat.le_of_ble_eq_true rfl) ⟨Nat.le_of_ble_eq_true rfl, Nat.le_of_ble_eq_true rfl⟩ dX6_init_1 ?_
  refine V_aload_n X dX6_init_4 rfl 0 rfl ?_
  refine V_bipush X (v := (20 : Int32)) dX6_init_5 (by decide) ?_
  refine V_newi X (N := 20) ka_int (by decide) (by decide) (by decide) (Nat.le_of_ble_eq_true rfl) (Nat.le_of_ble_eq_true rfl) dX6_init_7 (fun q1 h1 => ?_)
  have hP := hP q1 h1
  have h2 : gk (nw σ q1 10 20) q1 = _ := gk_new
  obtain ⟨h3, hP⟩ := hP
  refine V_putr X (v := (some q1)) kf_RX6_9 (fun _ => ⟨hnm, rfl⟩) rfl h3 (Or.inr ⟨_, rfl⟩) dX6_init_9 ?_
  refine V_aload_n X dX6_init_12 rfl 0 rfl ?_
  refine V_bipush X (v := (100 : Int32)) dX6_init_13 (by decide) ?_
  refine V_newi X (N := 100) ka_int (by decide) (by decide) (by decide) (Nat.le_of_ble_eq_true rfl) (Nat.le_of_ble_eq_true rfl) dX6_init_15 (fun q2 h4 => ?_)
  have hP := hP q2 h4
  have h5 := gk_keep (t := 10) (n := 100) h4 (show gk (sr (nw σ q1 10 20) a0 0 (some q1)) q1 = _ from h2)
  have h6 := gk_keep (t := 10) (n := 100) h4 (show gk (sr (nw σ q1 10 20) a0 0 (some q1)) a0 = _ from h3)
  have h7 : gk (nw (sr (nw σ q1 10 20) a0 0 (some q1)) q2 10 100) q2 = _ := gk_new
  refine V_putr X (v := (some q2)) kf_RX6_15 (fun _ => ⟨hnm, rfl⟩) rfl h6 (Or.inr ⟨_, rfl⟩) dX6_init_17 ?_
  refine V_aload_n X dX6_init_20 rfl 0 rfl ?_
  refine V_bipush X (v := (100 : Int32)) dX6_init_21 (by decide) ?_
  refine V_newi X (N := 100) ka_int (by decide) (by decide) (by decide) (Nat.le_of_ble_eq_true rfl) (Nat.le_of_ble_eq_true rfl) dX6_init_23 (fun q3 h8 => ?_)
  have hP := hP q3 h8
  have h9 := gk_keep (t := 10) (n := 100) h8 (show gk (sr (nw (sr (nw σ q1 10 20) a0 0 (some q1)) q2 10 100) a0 1 (some q2)) q1 = _ from h5)
  have h10 := gk_keep (t := 10) (n := 100) h8 (show gk (sr (nw (sr (nw σ q1 10 20) a0 0 (some q1)) q2 10 100) a0 1 (some q2)) a0 = _ from h6)
  have h11 := gk_keep (t := 10) (n := 100) h8 (show gk (sr (nw (sr (nw σ q1 10 20) a0 0 (some q1)) q2 10 100) a0 1 (some q2)) q2 = _ from h7)
  have h12 : gk (nw (sr (nw (sr (nw σ q1 10 20) a0 0 (some q1)) q2 10 100) a0 1 (some q2)) q3 10 100) q3 = _ := gk_new
  refine V_putr X (v := (some q3)) kf_RX6_18 (fun _ => ⟨hnm, rfl⟩) rfl h10 (Or.inr ⟨_, rfl⟩) dX6_init_25 ?_
  refine V_aload_n X dX6_init_28 rfl 0 rfl ?_
  refine V_bipush X (v := (100 : Int32)) dX6_init_29 (by decide) ?_
  refine V_newi X (N := 100) ka_int (by decide) (by decide) (by decide) (Nat.le_of_ble_eq_true rfl) (Nat.le_of_ble_eq_true rfl) dX6_init_31 (fun q4 h13 => ?_)
  have hP := hP q4 h13
  have h14 := gk_keep (t := 10) (n := 100) h13 (show gk (sr (nw (sr (nw (sr (nw σ q1 10 20) a0 0 (some q1)) q2 10 100) a0 1 (some q2)) q3 10 100) a0 2 (some q3)) q1 = _ from h9)
  have h15 := gk_keep (t := 10) (n := 100) h13 (show gk (sr (nw (sr (nw (sr (nw σ q1 10 20) a0 0 (some q1)) q2 10 100) a0 1 (some q2)) q3 10 100) a0 2 (some q3)) a0 = _ from h10)
  have h16 := gk_keep (t := 10) (n := 100) h13 (show gk (sr (nw (sr (nw (sr (nw σ q1 10 20) a0 0 (some q1)) q2 10 100) a0 1 (some q2)) q3 10 100) a0 2 (some q3)) q2 = _ from h11)
  have h17 := gk_keep (t := 10) (n := 100) h13 (show gk (sr (nw (sr (nw (sr (nw σ q1 10 20) a0 0 (some q1)) q2 10 100) a0 1 (some q2)) q3 10 100) a0 2 (some q3)) q3 = _ from h12)
  have h18 : gk (nw (sr (nw (sr (nw (sr (nw σ q1 10 20) a0 0 (some q1)) q2 10 100) a0 1 (some q2)) q3 10 100) a0 2 (some q3)) q4 10 100) q4 = _ := gk_new
  refine V_putr X (v := (some q4)) kf_RX6_21 (fun _ => ⟨hnm, rfl⟩) rfl h15 (Or.inr ⟨_, rfl⟩) dX6_init_33 ?_
  refine V_aload_n X dX6_init_36 rfl 0 rfl ?_
  refine V_bipush X (v := (100 : Int32)) dX6_init_37 (by decide) ?_
  refine V_newi X (N := 100) ka_int (by decide) (by decide) (by decide) (Nat.le_of_ble_eq_true rfl) (Nat.le_of_ble_eq_true rfl) dX6_init_39 (fun q5 h19 => ?_)
  have hP := hP q5 h19
  have h20 := gk_keep (t := 10) (n := 100) h19 (show gk (sr (nw (sr (nw (sr (nw (sr (nw σ q1 10 20) a0 0 (some q1)) q2 10 100) a0 1 (some q2)) q3 10 100) a0 2 (some q3)) q4 10 100) a0 3 (some q4)) q1 = _ from h14)
  have h21 := gk_keep (t := 10) (n := 100) h19 (show gk (sr (nw (sr (nw (sr (nw (sr (nw σ q1 10 20) a0 0 (some q1)) q2 10 100) a0 1 (some q2)) q3 10 100) a0 2 (some q3)) q4 10 100) a0 3 (some q4)) a0 = _ from h15)
  have h22 := gk_keep (t := 10) (n := 100) h19 (show gk (sr (nw (sr (nw (sr (nw (sr (nw σ q1 10 20) a0 0 (some q1)) q2 10 100) a0 1 (some q2)) q3 10 100) a0 2 (some q3)) q4 10 100) a0 3 (some q4)) q2 = _ from h16)
  have h23 := gk_keep (t := 10) (n := 100) h19 (show gk (sr (nw (sr (nw (sr (nw (sr (nw σ q1 10 20) a0 0 (some q1)) q2 10 100) a0 1 (some q2)) q3 10 100) a0 2 (some q3)) q4 10 100) a0 3 (some q4)) q3 = _ from h17)
  have h24 := gk_keep (t := 10) (n := 100) h19 (show gk (sr (nw (sr (nw (sr (nw (sr (nw σ q1 10 20) a0 0 (some q1)) q2 10 100) a0 1 (some q2)) q3 10 100) a0 2 (some q3)) q4 10 100) a0 3 (some q4)) q4 = _ from h18)
  have h25 : gk (nw (sr (nw (sr (nw (sr (nw (sr (nw σ q1 10 20) a0 0 (some q1)) q2 10 100) a0 1 (some q2)) q3 10 100) a0 2 (some q3)) q4 10 100) a0 3 (some q4)) q5 10 100) q5 = _ := gk_new
  refine V_putr X (v := (some q5)) kf_RX6_24 (fun _ => ⟨hnm, rfl⟩) rfl h21 (Or.inr ⟨_, rfl⟩) dX6_init_41 ?_
  refine V_aload_n X dX6_init_44 rfl 0 rfl ?_
  refine V_iconst X (v := (0 : Int32)) dX6_init_45 (by decide) ?_
  refine V_puti X kf_RX6_27 (fun h => by cases h) rfl h21 (Or.inl rfl) dX6_init_46 ?_
  refine V_aload_n X dX6_init_49 rfl 0 rfl ?_
  refine V_iconst X (v := (0 : Int32)) dX6_init_50 (by decide) ?_
  refine V_puti X kf_RX6_31 (fun h => by cases h) rfl h21 (Or.inl rfl) dX6_init_51 ?_
  exact V_vret X hr (Nat.le_of_ble_eq_true rfl) (Nat.le_of_ble_eq_true rfl) dX6_init_54 ⟨rfl, hP⟩
def P_X7_addByte (a0 : Nat) (x1 : Int32) (σ : Hp) (post : Hp → Prop) : Prop :=
  gk σ a0 = some (7, 0) ∧ ((gi σ a0 1) < 0 → post σ) ∧ (¬ ((gi σ a0 1) < 0) → ∃ b1 : Nat, (gr σ a0 0) = some b1 ∧ ∃ n2 : Nat, gk σ b1 = some (10, n2) ∧ ((gi σ a0 1) < (Int32.ofNat n2) → vp_in (gi σ a0 1) n2 ∧ post (si (si σ b1 (Int32.toNatClampNeg (gi σ a0 1)) x1) a0 1 ((gi σ a0 1) + (1 : Int32)))) ∧ (¬ ((gi σ a0 1) < (Int32.ofNat n2)) → post σ))
set_option maxHeartbeats 2000000 in
set_option maxRecDepth 100000 in
theorem m_X7_addByte (l : Launch) (G : GG) (N0 : Nat) (a0 : Nat) (x1 : Int32) (σ : Hp) (post : Hp → Prop) (hP : P_X7_addByte a0 x1 σ post) : MM l G N0 yX7_addByte cX7_addByte 2 none (0) (0) 0 0 [.ref a0, .int x1] σ (pV post) := by
  refine MM.of (by decide) (Nat.le_of_ble_eq_true rfl) ?_
  intro p e s m args below meth c X hr hnm
  refine V.to (lv2 := [(0, .ref a0), (1, .int x1)]) [0, 1] rfl rfl ?_
  unfold P_X7_addByte at hP
  refine V_aload_n X dX7_addByte_0 rfl 0 rfl ?_
  obtain ⟨h1, hP⟩ := hP
  refine V_geti X kf_RX7_15 rfl h1 dX7_addByte_1 ?_
  refine V_if_lt X (tgt := 19) dX7_addByte_4 (by decide) (fun h2 => ?_) (fun h2 => ?_)
  · have hP := hP.1 h2
    exact V_vret X hr (Nat.le_of_ble_eq_true rfl) (Nat.le_of_ble_eq_true rfl) dX7_addByte_19 ⟨rfl, hP⟩
  · have hP := hP.2 h2
    refine V_aload_n X dX7_addByte_7 rfl 0 rfl ?_
    refine V_geti X kf_RX7_15 rfl h1 dX7_addByte_8 ?_
    refine V_aload_n X dX7_addByte_11 rfl 0 rfl ?_
    refine V_getr X kf_RX7_9 rfl h1 dX7_addByte_12 ?_
    obtain ⟨b1, h3, hP⟩ := hP
    refine V_dr0 h3 ?_
    obtain ⟨n2, h4, hP⟩ := hP
    refine V_alen X (Or.inl rfl) h4 dX7_addByte_15 ?_
    refine V_icmp_lt X (tgt := 20) dX7_addByte_16 (by decide) (fun h5 => ?_) (fun h5 => ?_)
    · have hP := hP.1 h5
      refine V_aload_n X dX7_addByte_20 rfl 0 rfl ?_
      refine V_getr X kf_RX7_9 rfl h1 dX7_addByte_21 ?_
      refine V_aload_n X dX7_addByte_24 rfl 0 rfl ?_
      refine V_geti X kf_RX7_15 rfl h1 dX7_addByte_25 ?_
      refine V_iload_n X dX7_addByte_28 rfl 1 rfl ?_
      refine V_dr2 h3 ?_
      obtain ⟨h6, hP⟩ := hP
      refine V_iast X h4 h6 dX7_addByte_29 ?_
      refine V_aload_n X dX7_addByte_30 rfl 0 rfl ?_
      refine V_dup X dX7_addByte_31 rfl ?_
      refine V_geti X kf_RX7_15 rfl h1 dX7_addByte_32 ?_
      rw [show gi (si σ b1 (Int32.toNatClampNeg (gi σ a0 1)) x1) a0 1 = (gi σ a0 1) from ((gi_sa (ne_kd h1 h4 (by decide))).trans rfl)]
      refine V_iconst X (v := (1 : Int32)) dX7_addByte_35 (by decide) ?_
      refine V_iadd X dX7_addByte_36 ?_
      refine V_puti X kf_RX7_15 (fun h => by cases h) rfl h1 (Or.inl rfl) dX7_addByte_37 ?_
      exact V_vret X hr (Nat.le_of_ble_eq_true rfl) (Nat.le_of_ble_eq_true rfl) dX7_addByte_40 ⟨rfl, hP⟩
    · have hP := hP.2 h5
      exact V_vret X hr (Nat.le_of_ble_eq_true rfl) (Nat.le_of_ble_eq_true rfl) dX7_addByte_19 ⟨rfl, hP⟩
def F_X7_addNumber_2 (a0 : Nat) (x1 : Int32) (post : Hp → Prop) (I2 : Int32 → Hp → Prop) (v2 : Int32) (σ2 : Hp) : Prop :=
  (v2 < 0 → post σ2) ∧ (¬ (v2 < 0) → gk σ2 a0 = some (7, 0) ∧ P_X7_addByte a0 (((Int32.toUInt32 x1 >>> (Int32.toUInt32 ((8 : Int32) * v2) &&& Int32.toUInt32 31)).toInt32) &&& (255 : Int32)) σ2 (fun (σ201 : Hp) => I2 (v2 + (-1 : Int32)) σ201))
def P_X7_addNumber (a0 : Nat) (x1 : Int32) (σ : Hp) (post : Hp → Prop) : Prop :=
  lfp1 (F_X7_addNumber_2 a0 x1 post) (3 : Int32) σ
set_option maxHeartbeats 2000000 in
set_option maxRecDepth 100000 in
theorem m_X7_addNumber (l : Launch) (G : GG) (N0 : Nat) (a0 : Nat) (x1 : Int32) (σ : Hp) (post : Hp → Prop) (hP : P_X7_addNumber a0 x1 σ post) : MM l G N0 yX7_addNumber cX7_addNumber 3 none (1) (21) 0 0 [.ref a0, .int x1] σ (pV post) := by
  refine MM.of (by decide) (Nat.le_of_ble_eq_true rfl) ?_
  intro p e s m args below meth c X hr hnm
  refine V.to (lv2 := [(0, .ref a0), (1, .int x1)]) [0, 1] rfl rfl ?_
  unfold P_X7_addNumber at hP
  refine V_iconst X (v := (3 : Int32)) dX7_addNumber_0 (by decide) ?_
  refine V_istore_n X (lv' := [(2, .int (3 : Int32)), (0, .ref a0), (1, .int x1)]) dX7_addNumber_1 rfl (by decide) rfl ?_
  refine V.to (lv2 := [(0, .ref a0), (1, .int x1), (2, .int (3 : Int32))]) [1, 2, 0] rfl rfl ?_
  refine lfp1_use (fun v2 σ2 => V p l e { frames := 1, cells := 0, slots := 0, locals := 21 } s m args below meth c (MQ below (QC G N0 (pV post)) args s 0 0 (AN N0)) G N0 3 σ2 0 0 2 [(0, .ref a0), (1, .int x1), (2, .int v2)] []) hP ?_
  intro v2 σ2 hP
  unfold F_X7_addNumber_2 at hP
  refine V_iload_n X dX7_addNumber_2 rfl 2 rfl ?_
  refine V_if_lt X (tgt := 26) dX7_addNumber_3 (by decide) (fun h2001 => ?_) (fun h2001 => ?_)
  · have hP := hP.1 h2001
    exact V_vret X hr (Nat.le_of_ble_eq_true rfl) (Nat.le_of_ble_eq_true rfl) dX7_addNumber_26 ⟨rfl, hP⟩
  · have hP := hP.2 h2001
    refine V_aload_n X dX7_addNumber_6 rfl 0 rfl ?_
    refine V_iload_n X dX7_addNumber_7 rfl 1 rfl ?_
    refine V_bipush X (v := (8 : Int32)) dX7_addNumber_8 (by decide) ?_
    refine V_iload_n X dX7_addNumber_10 rfl 2 rfl ?_
    refine V_imul X dX7_addNumber_11 ?_
    refine V_iushr X dX7_addNumber_12 ?_
    refine V_sipush X (v := (255 : Int32)) dX7_addNumber_13 (by decide) ?_
    refine V_iand X dX7_addNumber_16 ?_
    obtain ⟨h2002, hP⟩ := hP
    refine V_callV_v X [.int (((Int32.toUInt32 x1 >>> (Int32.toUInt32 ((8 : Int32) * v2) &&& Int32.toUInt32 31)).toInt32) &&& (255 : Int32))] kw_RX7_19 ki_X7_addByte ks_X7_addByte ksg_X7_addByte (m_X7_addByte l G N0 _ _ _ _ hP) h2002 (by decide) rfl rfl ⟨Nat.le_of_ble_eq_true rfl, Nat.le_of_ble_eq_true rfl⟩ (Nat.le_of_ble_eq_true rfl) ⟨Nat.le_of_ble_eq_true rfl, Nat.le_of_ble_eq_true rfl⟩ rfl dX7_addNumber_17 (fun σ201 hP => ?_)
    refine V_iinc X (v := (v2 + (-1 : Int32))) (lv' := [(2, .int (v2 + (-1 : Int32))), (0, .ref a0), (1, .int x1)]) dX7_addNumber_20 2 rfl rfl (by decide) rfl ?_
    refine V_goto X (tgt := 2) dX7_addNumber_23 (by decide) ?_
    exact V.to [1, 2, 0] rfl rfl hP
def P_X7_cutTo (a0 : Nat) (x1 : Int32) (σ : Hp) (post : Hp → Prop) : Prop :=
  gk σ a0 = some (7, 0) ∧ post (si σ a0 1 (if (0 : Int32) < (if x1 < (gi σ a0 1) then x1 else (gi σ a0 1)) then (if x1 < (gi σ a0 1) then x1 else (gi σ a0 1)) else (0 : Int32)))
set_option maxHeartbeats 2000000 in
set_option maxRecDepth 100000 in
theorem m_X7_cutTo (l : Launch) (G : GG) (N0 : Nat) (a0 : Nat) (x1 : Int32) (σ : Hp) (post : Hp → Prop) (hP : P_X7_cutTo a0 x1 σ post) : MM l G N0 yX7_cutTo cX7_cutTo 2 none (1) (25) 0 0 [.ref a0, .int x1] σ (pV post) := by
  refine MM.of (by decide) (Nat.le_of_ble_eq_true rfl) ?_
  intro p e s m args below meth c X hr hnm
  refine V.to (lv2 := [(0, .ref a0), (1, .int x1)]) [0, 1] rfl rfl ?_
  unfold P_X7_cutTo at hP
  refine V_aload_n X dX7_cutTo_0 rfl 0 rfl ?_
  refine V_iconst X (v := (0 : Int32)) dX7_cutTo_1 (by decide) ?_
  refine V_aload_n X dX7_cutTo_2 rfl 0 rfl ?_
  obtain ⟨h1, hP⟩ := hP
  refine V_geti X kf_RX7_15 rfl h1 dX7_cutTo_3 ?_
  refine V_iload_n X dX7_cutTo_6 rfl 1 rfl ?_
  refine V_mmin X kl_RX7_23 km_min_s km_ini km_min_c (Nat.le_of_ble_eq_true rfl) ⟨Nat.le_of_ble_eq_true rfl, Nat.le_of_ble_eq_true rfl⟩ ⟨Nat.le_of_ble_eq_true rfl, Nat.le_of_ble_eq_true rfl⟩ dX7_cutTo_7 ?_
  refine V_mmax X kl_RX7_29 km_max_s km_ini km_max_c (Nat.le_of_ble_eq_true rfl) ⟨Nat.le_of_ble_eq_true rfl, Nat.le_of_ble_eq_true rfl⟩ ⟨Nat.le_of_ble_eq_true rfl, Nat.le_of_ble_eq_true rfl⟩ dX7_cutTo_10 ?_
  refine V_puti X kf_RX7_15 (fun h => by cases h) rfl h1 (Or.inl rfl) dX7_cutTo_13 ?_
  exact V_vret X hr (Nat.le_of_ble_eq_true rfl) (Nat.le_of_ble_eq_true rfl) dX7_cutTo_16 ⟨rfl, hP⟩
def P_X7_init (a0 : Nat) (σ : Hp) (post : Hp → Prop) : Prop :=
  ∀ q1 : Nat, gk σ q1 = none → gk (nw σ q1 10 200) a0 = some (7, 0) ∧ post (si (sr (nw σ q1 10 200) a0 0 (some q1)) a0 1 (0 : Int32))
set_option maxHeartbeats 2000000 in
set_option maxRecDepth 100000 in
theorem m_X7_init (l : Launch) (G : GG) (N0 : Nat) (a0 : Nat) (σ : Hp) (post : Hp → Prop) (hP : P_X7_init a0 σ post) : MM l G N0 yX7_init cX7_init 1 none (1) (20) 1 200 [.ref a0] σ (pV post) := by
  refine MM.of (by decide) (Nat.le_of_ble_eq_true rfl) ?_
  intro p e s m args below meth c X hr hnm
  refine V.to (lv2 := [(0, .ref a0)]) [0] rfl rfl ?_
  unfold P_X7_init at hP
  refine V_aload_n X dX7_init_0 rfl 0 rfl ?_
  refine V_objInit X kl_RX7_3 ko_inst ko_code (Nat.le_of_ble_eq_true rfl) ⟨Nat.le_of_ble_eq_true rfl, Nat.le_of_ble_eq_true rfl⟩ dX7_init_1 ?_
  refine V_aload_n X dX7_init_4 rfl 0 rfl ?_
  refine V_sipush X (v := (200 : Int32)) dX7_init_5 (by decide) ?_
  refine V_newi X (N := 200) ka_int (by decide) (by decide) (by decide) (Nat.le_of_ble_eq_true rfl) (Nat.le_of_ble_eq_true rfl) dX7_init_8 (fun q1 h1 => ?_)
  have hP := hP q1 h1
  have h2 : gk (nw σ q1 10 200) q1 = _ := gk_new
  obtain ⟨h3, hP⟩ := hP
  refine V_putr X (v := (some q1)) kf_RX7_9 (fun _ => ⟨hnm, rfl⟩) rfl h3 (Or.inr ⟨_, rfl⟩) dX7_init_10 ?_
  refine V_aload_n X dX7_init_13 rfl 0 rfl ?_
  refine V_iconst X (v := (0 : Int32)) dX7_init_14 (by decide) ?_
  refine V_puti X kf_RX7_15 (fun h => by cases h) rfl h3 (Or.inl rfl) dX7_init_15 ?_
  exact V_vret X hr (Nat.le_of_ble_eq_true rfl) (Nat.le_of_ble_eq_true rfl) dX7_init_18 ⟨rfl, hP⟩
