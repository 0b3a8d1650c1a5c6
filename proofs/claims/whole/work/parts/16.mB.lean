def P_X8_answered (a0 : Nat) (x1 : Int32) (σ : Hp) (post : Int32 → Hp → Prop) : Prop :=
  gk σ a0 = some (8, 0) ∧ post x1 (si σ a0 8 (0 : Int32))
set_option maxHeartbeats 2000000 in
set_option maxRecDepth 100000 in
theorem m_X8_answered (l : Launch) (G : GG) (N0 : Nat) (a0 : Nat) (x1 : Int32) (σ : Hp) (post : Int32 → Hp → Prop) (hP : P_X8_answered a0 x1 σ post) : MM l G N0 yX8_answered cX8_answered 2 (some .int) (0) (0) 0 0 [.ref a0, .int x1] σ (pI post) := by
  refine MM.of (by decide) (Nat.le_of_ble_eq_true rfl) ?_
  intro p e s m args below meth c X hr hnm
  refine V.to (lv2 := [(0, .ref a0), (1, .int x1)]) [0, 1] rfl rfl ?_
  unfold P_X8_answered at hP
  refine V_aload_n X dX8_answered_0 rfl 0 rfl ?_
  refine V_iconst X (v := (0 : Int32)) dX8_answered_1 (by decide) ?_
  obtain ⟨h1, hP⟩ := hP
  refine V_puti X kf_RX8_53 (fun h => by cases h) rfl h1 (Or.inl rfl) dX8_answered_2 ?_
  refine V_iload_n X dX8_answered_5 rfl 1 rfl ?_
  exact V_iret X hr (Or.inl rfl) (Nat.le_of_ble_eq_true rfl) (Nat.le_of_ble_eq_true rfl) dX8_answered_6 ⟨_, rfl, hP⟩
def P_X8_asOf (a0 : Nat) (x1 : Int32) (x2 : Int32) (x3 : Int32) (σ : Hp) (post : Int32 → Hp → Prop) : Prop :=
  gk σ a0 = some (8, 0) ∧ ∃ b1 : Nat, (gr σ a0 10) = some b1 ∧ gk σ b1 = some (5, 0) ∧ P_X5_clear b1 σ (fun (σ2 : Hp) => (x1 < 0 → gk σ2 a0 = some (8, 0) ∧ ∃ b3 : Nat, (gr σ2 a0 10) = some b3 ∧ ∃ b4 : Nat, (gr σ2 a0 4) = some b4 ∧ ∃ b5 : Nat, (gr σ2 a0 11) = some b5 ∧ gk σ2 b5 = some (1, 0) ∧ P_X1_gather b5 b4 b3 x2 σ2 (fun (σ6 : Hp) => (¬ x3 = (-1 : Int32) → gk σ6 a0 = some (8, 0) ∧ ∃ b7 : Nat, (gr σ6 a0 11) = some b7 ∧ gk σ6 b7 = some (1, 0) ∧ P_X1_at b7 x3 σ6 (fun (r8 : Int32) (σ8 : Hp) => post r8 σ8)) ∧ (x3 = (-1 : Int32) → gk σ6 a0 = some (8, 0) ∧ ∃ b9 : Nat, (gr σ6 a0 11) = some b9 ∧ gk σ6 b9 = some (1, 0) ∧ P_X1_length b9 σ6 (fun (r10 : Int32) (σ10 : Hp) => post r10 σ10)))) ∧ (¬ (x1 < 0) → gk σ2 a0 = some (8, 0) ∧ ∃ b11 : Nat, (gr σ2 a0 1) = some b11 ∧ gk σ2 b11 = some (0, 0) ∧ P_X0_length b11 σ2 (fun (r12 : Int32) (σ12 : Hp) => (r12 < x1 → gk σ12 a0 = some (8, 0) ∧ ∃ b13 : Nat, (gr σ12 a0 10) = some b13 ∧ ∃ b14 : Nat, (gr σ12 a0 4) = some b14 ∧ ∃ b15 : Nat, (gr σ12 a0 11) = some b15 ∧ gk σ12 b15 = some (1, 0) ∧ P_X1_gather b15 b14 b13 x2 σ12 (fun (σ16 : Hp) => (¬ x3 = (-1 : Int32) → gk σ16 a0 = some (8, 0) ∧ ∃ b17 : Nat, (gr σ16 a0 11) = some b17 ∧ gk σ16 b17 = some (1, 0) ∧ P_X1_at b17 x3 σ16 (fun (r18 : Int32) (σ18 : Hp) => post r18 σ18)) ∧ (x3 = (-1 : Int32) → gk σ16 a0 = some (8, 0) ∧ ∃ b19 : Nat, (gr σ16 a0 11) = some b19 ∧ gk σ16 b19 = some (1, 0) ∧ P_X1_length b19 σ16 (fun (r20 : Int32) (σ20 : Hp) => post r20 σ20)))) ∧ (¬ (r12 < x1) → gk σ12 a0 = some (8, 0) ∧ ∃ b21 : Nat, (gr σ12 a0 10) = some b21 ∧ ∃ b22 : Nat, (gr σ12 a0 1) = some b22 ∧ gk σ12 b22 = some (0, 0) ∧ P_X0_replay b22 x1 b21 σ12 (fun (σ23 : Hp) => gk σ23 a0 = some (8, 0) ∧ ∃ b24 : Nat, (gr σ23 a0 10) = some b24 ∧ ∃ b25 : Nat, (gr σ23 a0 4) = some b25 ∧ ∃ b26 : Nat, (gr σ23 a0 11) = some b26 ∧ gk σ23 b26 = some (1, 0) ∧ P_X1_gather b26 b25 b24 x2 σ23 (fun (σ27 : Hp) => (¬ x3 = (-1 : Int32) → gk σ27 a0 = some (8, 0) ∧ ∃ b28 : Nat, (gr σ27 a0 11) = some b28 ∧ gk σ27 b28 = some (1, 0) ∧ P_X1_at b28 x3 σ27 (fun (r29 : Int32) (σ29 : Hp) => post r29 σ29)) ∧ (x3 = (-1 : Int32) → gk σ27 a0 = some (8, 0) ∧ ∃ b30 : Nat, (gr σ27 a0 11) = some b30 ∧ gk σ27 b30 = some (1, 0) ∧ P_X1_length b30 σ27 (fun (r31 : Int32) (σ31 : Hp) => post r31 σ31))))))))
set_option maxHeartbeats 2000000 in
set_option maxRecDepth 100000 in
theorem m_X8_asOf (l : Launch) (G : GG) (N0 : Nat) (a0 : Nat) (x1 : Int32) (x2 : Int32) (x3 : Int32) (σ : Hp) (post : Int32 → Hp → Prop) (hP : P_X8_asOf a0 x1 x2 x3 σ post) : MM l G N0 yX8_asOf cX8_asOf 4 (some .int) (40) (1156) 0 0 [.ref a0, .int x1, .int x2, .int x3] σ (pI post) := by
  refine MM.of (by decide) (Nat.le_of_ble_eq_true rfl) ?_
  intro p e s m args below meth c X hr hnm
  refine V.to (lv2 := [(0, .ref a0), (1, .int x1), (2, .int x2), (3, .int x3)]) [0, 1, 2, 3] rfl rfl ?_
  unfold P_X8_asOf at hP
  refine V_aload_n X dX8_asOf_0 rfl 0 rfl ?_
  obtain ⟨h1, hP⟩ := hP
  refine V_getr X kf_RX8_59 rfl h1 dX8_asOf_1 ?_
  obtain ⟨b1, h2, hP⟩ := hP
  refine V_dr0 h2 ?_
  obtain ⟨h3, hP⟩ := hP
  refine V_callV_v X [] kw_RX8_214 ki_X5_clear ks_X5_clear ksg_X5_clear (m_X5_clear l G N0 _ _ _ hP) h3 (by decide) rfl rfl ⟨Nat.le_of_ble_eq_true rfl, Nat.le_of_ble_eq_true rfl⟩ (Nat.le_of_ble_eq_true rfl) ⟨Nat.le_of_ble_eq_true rfl, Nat.le_of_ble_eq_true rfl⟩ rfl dX8_asOf_4 (fun σ2 hP => ?_)
  refine V_iload_n X dX8_asOf_7 rfl 1 rfl ?_
  refine V_if_lt X (tgt := 34) dX8_asOf_8 (by decide) (fun h4 => ?_) (fun h4 => ?_)
  · have hP := hP.1 h4
    refine V_aload_n X dX8_asOf_34 rfl 0 rfl ?_
    obtain ⟨h5, hP⟩ := hP
    refine V_getr X kf_RX8_65 rfl h5 dX8_asOf_35 ?_
    refine V_aload_n X dX8_asOf_38 rfl 0 rfl ?_
    refine V_getr X kf_RX8_39 rfl h5 dX8_asOf_39 ?_
    refine V_aload_n X dX8_asOf_42 rfl 0 rfl ?_
    refine V_getr X kf_RX8_59 rfl h5 dX8_asOf_43 ?_
    refine V_iload_n X dX8_asOf_46 rfl 2 rfl ?_
    obtain ⟨b3, h6, hP⟩ := hP
    refine V_dr1 h6 ?_
    obtain ⟨b4, h7, hP⟩ := hP
    refine V_dr2 h7 ?_
    obtain ⟨b5, h8, hP⟩ := hP
    refine V_dr3 h8 ?_
    obtain ⟨h9, hP⟩ := hP
    refine V_callV_v X [.ref b4, .ref b3, .int x2] kw_RX8_165 ki_X1_gather ks_X1_gather ksg_X1_gather (m_X1_gather l G N0 _ _ _ _ _ _ hP) h9 (by decide) rfl rfl ⟨Nat.le_of_ble_eq_true rfl, Nat.le_of_ble_eq_true rfl⟩ (Nat.le_of_ble_eq_true rfl) ⟨Nat.le_of_ble_eq_true rfl, Nat.le_of_ble_eq_true rfl⟩ rfl dX8_asOf_47 (fun σ6 hP => ?_)
    refine V_iload_n X dX8_asOf_50 rfl 3 rfl ?_
    refine V_iconst X (v := (-1 : Int32)) dX8_asOf_51 (by decide) ?_
    refine V_icmp_ne X (tgt := 65) dX8_asOf_52 (by decide) (fun h10 => ?_) (fun h10 => ?_)
    · have hP := hP.1 h10
      refine V_aload_n X dX8_asOf_65 rfl 0 rfl ?_
      obtain ⟨h11, hP⟩ := hP
      refine V_getr X kf_RX8_65 rfl h11 dX8_asOf_66 ?_
      refine V_iload_n X dX8_asOf_69 rfl 3 rfl ?_
      obtain ⟨b7, h12, hP⟩ := hP
      refine V_dr1 h12 ?_
      obtain ⟨h13, hP⟩ := hP
      refine V_callV_i X [.int x3] kw_RX8_170 ki_X1_at ks_X1_at ksg_X1_at (m_X1_at l G N0 _ _ _ _ hP) h13 (by decide) rfl rfl ⟨Nat.le_of_ble_eq_true rfl, Nat.le_of_ble_eq_true rfl⟩ (Nat.le_of_ble_eq_true rfl) ⟨Nat.le_of_ble_eq_true rfl, Nat.le_of_ble_eq_true rfl⟩ rfl dX8_asOf_70 (fun r8 σ8 hP => ?_)
      exact V_iret X hr (Or.inl rfl) (Nat.le_of_ble_eq_true rfl) (Nat.le_of_ble_eq_true rfl) dX8_asOf_73 ⟨_, rfl, hP⟩
    · have hP := hP.2 h10
      refine V_aload_n X dX8_asOf_55 rfl 0 rfl ?_
      obtain ⟨h14, hP⟩ := hP
      refine V_getr X kf_RX8_65 rfl h14 dX8_asOf_56 ?_
      obtain ⟨b9, h15, hP⟩ := hP
      refine V_dr0 h15 ?_
      obtain ⟨h16, hP⟩ := hP
      refine V_callV_i X [] kw_RX8_169 ki_X1_length ks_X1_length ksg_X1_length (m_X1_length l G N0 _ _ _ hP) h16 (by decide) rfl rfl ⟨Nat.le_of_ble_eq_true rfl, Nat.le_of_ble_eq_true rfl⟩ (Nat.le_of_ble_eq_true rfl) ⟨Nat.le_of_ble_eq_true rfl, Nat.le_of_ble_eq_true rfl⟩ rfl dX8_asOf_59 (fun r10 σ10 hP => ?_)
      refine V_goto X (tgt := 73) dX8_asOf_62 (by decide) ?_
      exact V_iret X hr (Or.inl rfl) (Nat.le_of_ble_eq_true rfl) (Nat.le_of_ble_eq_true rfl) dX8_asOf_73 ⟨_, rfl, hP⟩
  · have hP := hP.2 h4
    refine V_iload_n X dX8_asOf_11 rfl 1 rfl ?_
    refine V_aload_n X dX8_asOf_12 rfl 0 rfl ?_
    obtain ⟨h17, hP⟩ := hP
    refine V_getr X kf_RX8_19 rfl h17 dX8_asOf_13 ?_
    obtain ⟨b11, h18, hP⟩ := hP
    refine V_dr0 h18 ?_
    obtain ⟨h19, hP⟩ := hP
    refine V_callV_i X [] kw_RX8_215 ki_X0_length ks_X0_length ksg_X0_length (m_X0_length l G N0 _ _ _ hP) h19 (by decide) rfl rfl ⟨Nat.le_of_ble_eq_true rfl, Nat.le_of_ble_eq_true rfl⟩ (Nat.le_of_ble_eq_true rfl) ⟨Nat.le_of_ble_eq_true rfl, Nat.le_of_ble_eq_true rfl⟩ rfl dX8_asOf_16 (fun r12 σ12 hP => ?_)
    refine V_icmp_gt X (tgt := 34) dX8_asOf_19 (by decide) (fun h20 => ?_) (fun h20 => ?_)
    · have hP := hP.1 h20
      refine V_aload_n X dX8_asOf_34 rfl 0 rfl ?_
      obtain ⟨h21, hP⟩ := hP
      refine V_getr X kf_RX8_65 rfl h21 dX8_asOf_35 ?_
      refine V_aload_n X dX8_asOf_38 rfl 0 rfl ?_
      refine V_getr X kf_RX8_39 rfl h21 dX8_asOf_39 ?_
      refine V_aload_n X dX8_asOf_42 rfl 0 rfl ?_
      refine V_getr X kf_RX8_59 rfl h21 dX8_asOf_43 ?_
      refine V_iload_n X dX8_asOf_46 rfl 2 rfl ?_
      obtain ⟨b13, h22, hP⟩ := hP
      refine V_dr1 h22 ?_
      obtain ⟨b14, h23, hP⟩ := hP
      refine V_dr2 h23 ?_
      obtain ⟨b15, h24, hP⟩ := hP
      refine V_dr3 h24 ?_
      obtain ⟨h25, hP⟩ := hP
      refine V_callV_v X [.ref b14, .ref b13, .int x2] kw_RX8_165 ki_X1_gather ks_X1_gather ksg_X1_gather (m_X1_gather l G N0 _ _ _ _ _ _ hP) h25 (by decide) rfl rfl ⟨Nat.le_of_ble_eq_true rfl, Nat.le_of_ble_eq_true rfl⟩ (Nat.le_of_ble_eq_true rfl) ⟨Nat.le_of_ble_eq_true rfl, Nat.le_of_ble_eq_true rfl⟩ rfl dX8_asOf_47 (fun σ16 hP => ?_)
      refine V_iload_n X dX8_asOf_50 rfl 3 rfl ?_
      refine V_iconst X (v := (-1 : Int32)) dX8_asOf_51 (by decide) ?_
      refine V_icmp_ne X (tgt := 65) dX8_asOf_52 (by decide) (fun h26 => ?_) (fun h26 => ?_)
      · have hP := hP.1 h26
        refine V_aload_n X dX8_asOf_65 rfl 0 rfl ?_
        obtain ⟨h27, hP⟩ := hP
        refine V_getr X kf_RX8_65 rfl h27 dX8_asOf_66 ?_
        refine V_iload_n X dX8_asOf_69 rfl 3 rfl ?_
        obtain ⟨b17, h28, hP⟩ := hP
        refine V_dr1 h28 ?_
        obtain ⟨h29, hP⟩ := hP
        refine V_callV_i X [.int x3] kw_RX8_170 ki_X1_at ks_X1_at ksg_X1_at (m_X1_at l G N0 _ _ _ _ hP) h29 (by decide) rfl rfl ⟨Nat.le_of_ble_eq_true rfl, Nat.le_of_ble_eq_true rfl⟩ (Nat.le_of_ble_eq_true rfl) ⟨Nat.le_of_ble_eq_true rfl, Nat.le_of_ble_eq_true rfl⟩ rfl dX8_asOf_70 (fun r18 σ18 hP => ?_)
        exact V_iret X hr (Or.inl rfl) (Nat.le_of_ble_eq_true rfl) (Nat.le_of_ble_eq_true rfl) dX8_asOf_73 ⟨_, rfl, hP⟩
      · have hP := hP.2 h26
        refine V_aload_n X dX8_asOf_55 rfl 0 rfl ?_
        obtain ⟨h30, hP⟩ := hP
        refine V_getr X kf_RX8_65 rfl h30 dX8_asOf_56 ?_
        obtain ⟨b19, h31, hP⟩ := hP
        refine V_dr0 h31 ?_
        obtain ⟨h32, hP⟩ := hP
        refine V_callV_i X [] kw_RX8_169 ki_X1_length ks_X1_length ksg_X1_length (m_X1_length l G N0 _ _ _ hP) h32 (by decide) rfl rfl ⟨Nat.le_of_ble_eq_true rfl, Nat.le_of_ble_eq_true rfl⟩ (Nat.le_of_ble_eq_true rfl) ⟨Nat.le_of_ble_eq_true rfl, Nat.le_of_ble_eq_true rfl⟩ rfl dX8_asOf_59 (fun r20 σ20 hP => ?_)
        refine V_goto X (tgt := 73) dX8_asOf_62 (by decide) ?_
        exact V_iret X hr (Or.inl rfl) (Nat.le_of_ble_eq_true rfl) (Nat.le_of_ble_eq_true rfl) dX8_asOf_73 ⟨_, rfl, hP⟩
    · have hP := hP.2 h20
      refine V_aload_n X dX8_asOf_22 rfl 0 rfl ?_
      obtain ⟨h33, hP⟩ := hP
      refine V_getr X kf_RX8_19 rfl h33 dX8_asOf_23 ?_
      refine V_iload_n X dX8_asOf_26 rfl 1 rfl ?_
      refine V_aload_n X dX8_asOf_27 rfl 0 rfl ?_
      refine V_getr X kf_RX8_59 rfl h33 dX8_asOf_28 ?_
      obtain ⟨b21, h34, hP⟩ := hP
      refine V_dr0 h34 ?_
      obtain ⟨b22, h35, hP⟩ := hP
      refine V_dr2 h35 ?_
      obtain ⟨h36, hP⟩ := hP
      refine V_callV_v X [.int x1, .ref b21] kw_RX8_216 ki_X0_replay ks_X0_replay ksg_X0_replay (m_X0_replay l G N0 _ _ _ _ _ hP) h36 (by decide) rfl rfl ⟨Nat.le_of_ble_eq_true rfl, Nat.le_of_ble_eq_true rfl⟩ (Nat.le_of_ble_eq_true rfl) ⟨Nat.le_of_ble_eq_true rfl, Nat.le_of_ble_eq_true rfl⟩ rfl dX8_asOf_31 (fun σ23 hP => ?_)
      refine V_aload_n X dX8_asOf_34 rfl 0 rfl ?_
      obtain ⟨h37, hP⟩ := hP
      refine V_getr X kf_RX8_65 rfl h37 dX8_asOf_35 ?_
      refine V_aload_n X dX8_asOf_38 rfl 0 rfl ?_
      refine V_getr X kf_RX8_39 rfl h37 dX8_asOf_39 ?_
      refine V_aload_n X dX8_asOf_42 rfl 0 rfl ?_
      refine V_getr X kf_RX8_59 rfl h37 dX8_asOf_43 ?_
      refine V_iload_n X dX8_asOf_46 rfl 2 rfl ?_
      obtain ⟨b24, h38, hP⟩ := hP
      refine V_dr1 h38 ?_
      obtain ⟨b25, h39, hP⟩ := hP
      refine V_dr2 h39 ?_
      obtain ⟨b26, h40, hP⟩ := hP
      refine V_dr3 h40 ?_
      obtain ⟨h41, hP⟩ := hP
      refine V_callV_v X [.ref b25, .ref b24, .int x2] kw_RX8_165 ki_X1_gather ks_X1_gather ksg_X1_gather (m_X1_gather l G N0 _ _ _ _ _ _ hP) h41 (by decide) rfl rfl ⟨Nat.le_of_ble_eq_true rfl, Nat.le_of_ble_eq_true rfl⟩ (Nat.le_of_ble_eq_true rfl) ⟨Nat.le_of_ble_eq_true rfl, Nat.le_of_ble_eq_true rfl⟩ rfl dX8_asOf_47 (fun σ27 hP => ?_)
      refine V_iload_n X dX8_asOf_50 rfl 3 rfl ?_
      refine V_iconst X (v := (-1 : Int32)) dX8_asOf_51 (by decide) ?_
      refine V_icmp_ne X (tgt := 65) dX8_asOf_52 (by decide) (fun h42 => ?_) (fun h42 => ?_)
      · have hP := hP.1 h42
        refine V_aload_n X dX8_asOf_65 rfl 0 rfl ?_
        obtain ⟨h43, hP⟩ := hP
        refine V_getr X kf_RX8_65 rfl h43 dX8_asOf_66 ?_
        refine V_iload_n X dX8_asOf_69 rfl 3 rfl ?_
        obtain ⟨b28, h44, hP⟩ := hP
        refine V_dr1 h44 ?_
        obtain ⟨h45, hP⟩ := hP
        refine V_callV_i X [.int x3] kw_RX8_170 ki_X1_at ks_X1_at ksg_X1_at (m_X1_at l G N0 _ _ _ _ hP) h45 (by decide) rfl rfl ⟨Nat.le_of_ble_eq_true rfl, Nat.le_of_ble_eq_true rfl⟩ (Nat.le_of_ble_eq_true rfl) ⟨Nat.le_of_ble_eq_true rfl, Nat.le_of_ble_eq_true rfl⟩ rfl dX8_asOf_70 (fun r29 σ29 hP => ?_)
        exact V_iret X hr (Or.inl rfl) (Nat.le_of_ble_eq_true rfl) (Nat.le_of_ble_eq_true rfl) dX8_asOf_73 ⟨_, rfl, hP⟩
      · have hP := hP.2 h42
        refine V_aload_n X dX8_asOf_55 rfl 0 rfl ?_
        obtain ⟨h46, hP⟩ := hP
        refine V_getr X kf_RX8_65 rfl h46 dX8_asOf_56 ?_
        obtain ⟨b30, h47, hP⟩ := hP
        refine V_dr0 h47 ?_
        obtain ⟨h48, hP⟩ := hP
        refine V_callV_i X [] kw_RX8_169 ki_X1_length ks_X1_length ksg_X1_length (m_X1_length l G N0 _ _ _ hP) h48 (by decide) rfl rfl ⟨Nat.le_of_ble_eq_true rfl, Nat.le_of_ble_eq_true rfl⟩ (Nat.le_of_ble_eq_true rfl) ⟨Nat.le_of_ble_eq_true rfl, Nat.le_of_ble_eq_true rfl⟩ rfl dX8_asOf_59 (fun r31 σ31 hP => ?_)
        refine V_goto X (tgt := 73) dX8_asOf_62 (by decide) ?_
        exact V_iret X hr (Or.inl rfl) (Nat.le_of_ble_eq_true rfl) (Nat.le_of_ble_eq_true rfl) dX8_asOf_73 ⟨_, rfl, hP⟩
def P_X8_canBeReferredTo (a0 : Nat) (x1 : Int32) (σ : Hp) (post : Int32 → Hp → Prop) : Prop :=
  (x1 = (-1 : Int32) → post (1 : Int32) σ) ∧ (¬ (x1 = (-1 : Int32)) → gk σ a0 = some (8, 0) ∧ ∃ b1 : Nat, (gr σ a0 0) = some b1 ∧ gk σ b1 = some (5, 0) ∧ P_X5_standing b1 x1 σ (fun (r2 : Option Nat) (σ2 : Hp) => (r2 = none → post (0 : Int32) σ2) ∧ (∀ b3 : Nat, r2 = some b3 → post (1 : Int32) σ2)))
set_option maxHeartbeats 2000000 in
set_option maxRecDepth 100000 in
theorem m_X8_canBeReferredTo (l : Launch) (G : GG) (N0 : Nat) (a0 : Nat) (x1 : Int32) (σ : Hp) (post : Int32 → Hp → Prop) (hP : P_X8_canBeReferredTo a0 x1 σ post) : MM l G N0 yX8_canBeReferredTo cX8_canBeReferredTo 2 (some .boolean) (2) (43) 0 0 [.ref a0, .int x1] σ (pI post) := by
  refine MM.of (by decide) (Nat.le_of_ble_eq_true rfl) ?_
  intro p e s m args below meth c X hr hnm
  refine V.to (lv2 := [(0, .ref a0), (1, .int x1)]) [0, 1] rfl rfl ?_
  unfold P_X8_canBeReferredTo at hP
  refine V_iload_n X dX8_canBeReferredTo_0 rfl 1 rfl ?_
  refine V_iconst X (v := (-1 : Int32)) dX8_canBeReferredTo_1 (by decide) ?_
  refine V_icmp_eq X (tgt := 16) dX8_canBeReferredTo_2 (by decide) (fun h1 => ?_) (fun h1 => ?_)
  · have hP := hP.1 h1
    refine V_iconst X (v := (1 : Int32)) dX8_canBeReferredTo_16 (by decide) ?_
    refine V_goto X (tgt := 21) dX8_canBeReferredTo_17 (by decide) ?_
    exact V_iret X hr (Or.inr ⟨rfl, Or.inr rfl⟩) (Nat.le_of_ble_eq_true rfl) (Nat.le_of_ble_eq_true rfl) dX8_canBeReferredTo_21 ⟨_, rfl, hP⟩
  · have hP := hP.2 h1
    refine V_aload_n X dX8_canBeReferredTo_5 rfl 0 rfl ?_
    obtain ⟨h2, hP⟩ := hP
    refine V_getr X kf_RX8_12 rfl h2 dX8_canBeReferredTo_6 ?_
    refine V_iload_n X dX8_canBeReferredTo_9 rfl 1 rfl ?_
    obtain ⟨b1, h3, hP⟩ := hP
    refine V_dr1 h3 ?_
    obtain ⟨h4, hP⟩ := hP
    refine V_callV_r X [.int x1] kw_RX8_104 ki_X5_standing ks_X5_standing ksg_X5_standing (m_X5_standing l G N0 _ _ _ _ hP) h4 (by decide) rfl rfl ⟨Nat.le_of_ble_eq_true rfl, Nat.le_of_ble_eq_true rfl⟩ (Nat.le_of_ble_eq_true rfl) ⟨Nat.le_of_ble_eq_true rfl, Nat.le_of_ble_eq_true rfl⟩ rfl dX8_canBeReferredTo_10 (fun r2 σ2 hP => ?_)
    refine V_ifnull X (tgt := 20) dX8_canBeReferredTo_13 (by decide) (fun h5 => ?_) (fun b3 h5 => ?_)
    · have hP := hP.1 h5
      refine V_iconst X (v := (0 : Int32)) dX8_canBeReferredTo_20 (by decide) ?_
      exact V_iret X hr (Or.inr ⟨rfl, Or.inl rfl⟩) (Nat.le_of_ble_eq_true rfl) (Nat.le_of_ble_eq_true rfl) dX8_canBeReferredTo_21 ⟨_, rfl, hP⟩
    · have hP := hP.2 b3 h5
      refine V_iconst X (v := (1 : Int32)) dX8_canBeReferredTo_16 (by decide) ?_
      refine V_goto X (tgt := 21) dX8_canBeReferredTo_17 (by decide) ?_
      exact V_iret X hr (Or.inr ⟨rfl, Or.inr rfl⟩) (Nat.le_of_ble_eq_true rfl) (Nat.le_of_ble_eq_true rfl) dX8_canBeReferredTo_21 ⟨_, rfl, hP⟩
def P_X8_count (a0 : Nat) (x1 : Int32) (σ : Hp) (post : Int32 → Hp → Prop) : Prop :=
  ((Int32.toInt x1 < 0 ∨ 6 < Int32.toInt x1) → post (-1 : Int32) σ) ∧ (Int32.toInt x1 = 0 → gk σ a0 = some (8, 0) ∧ ∃ b1 : Nat, (gr σ a0 0) = some b1 ∧ gk σ b1 = some (5, 0) ∧ P_X5_standingOnes b1 σ (fun (r2 : Int32) (σ2 : Hp) => post r2 σ2)) ∧ (Int32.toInt x1 = 1 → gk σ a0 = some (8, 0) ∧ ∃ b3 : Nat, (gr σ a0 0) = some b3 ∧ gk σ b3 = some (5, 0) ∧ P_X5_known b3 σ (fun (r4 : Int32) (σ4 : Hp) => post r4 σ4)) ∧ (Int32.toInt x1 = 2 → gk σ a0 = some (8, 0) ∧ ∃ b5 : Nat, (gr σ a0 4) = some b5 ∧ gk σ b5 = some (6, 0) ∧ P_X6_parts b5 σ (fun (r6 : Int32) (σ6 : Hp) => post r6 σ6)) ∧ (Int32.toInt x1 = 3 → gk σ a0 = some (8, 0) ∧ post (gi σ a0 5) σ) ∧ (Int32.toInt x1 = 4 → gk σ a0 = some (8, 0) ∧ ∃ b7 : Nat, (gr σ a0 1) = some b7 ∧ gk σ b7 = some (0, 0) ∧ P_X0_length b7 σ (fun (r8 : Int32) (σ8 : Hp) => post r8 σ8)) ∧ (Int32.toInt x1 = 5 → gk σ a0 = some (8, 0) ∧ ∃ b9 : Nat, (gr σ a0 2) = some b9 ∧ gk σ b9 = some (7, 0) ∧ P_X7_length b9 σ (fun (r10 : Int32) (σ10 : Hp) => post r10 σ10)) ∧ (Int32.toInt x1 = 6 → gk σ a0 = some (8, 0) ∧ post (gi σ a0 6) σ)
set_option maxHeartbeats 2000000 in
set_option maxRecDepth 100000 in
theorem m_X8_count (l : Launch) (G : GG) (N0 : Nat) (a0 : Nat) (x1 : Int32) (σ : Hp) (post : Int32 → Hp → Prop) (hP : P_X8_count a0 x1 σ post) : MM l G N0 yX8_count cX8_count 2 (some .int) (3) (65) 0 0 [.ref a0, .int x1] σ (pI post) := by
  refine MM.of (by decide) (Nat.le_of_ble_eq_true rfl) ?_
  intro p e s m args below meth c X hr hnm
  refine V.to (lv2 := [(0, .ref a0), (1, .int x1)]) [0, 1] rfl rfl ?_
  unfold P_X8_count at hP
  refine V_iload_n X dX8_count_0 rfl 1 rfl ?_
  rcases (show (Int32.toInt x1 < 0 ∨ 6 < Int32.toInt x1) ∨ Int32.toInt x1 = 0 ∨ Int32.toInt x1 = 1 ∨ Int32.toInt x1 = 2 ∨ Int32.toInt x1 = 3 ∨ Int32.toInt x1 = 4 ∨ Int32.toInt x1 = 5 ∨ Int32.toInt x1 = 6 by omega) with h1 | h1 | h1 | h1 | h1 | h1 | h1 | h1
  · have hP := hP.1 h1
    refine V_tabOut X (tgt := 94) dX8_count_1 h1 (by decide) ?_
    refine V_iconst X (v := (-1 : Int32)) dX8_count_94 (by decide) ?_
    exact V_iret X hr (Or.inl rfl) (Nat.le_of_ble_eq_true rfl) (Nat.le_of_ble_eq_true rfl) dX8_count_95 ⟨_, rfl, hP⟩
  · have hP := hP.2.1 h1
    refine V_tabIn X (tgt := 44) (off := 43) dX8_count_1 (by omega) (by omega) (by rw [h1]; rfl) (by decide) ?_
    refine V_aload_n X dX8_count_44 rfl 0 rfl ?_
    obtain ⟨h2, hP⟩ := hP
    refine V_getr X kf_RX8_12 rfl h2 dX8_count_45 ?_
    obtain ⟨b1, h3, hP⟩ := hP
    refine V_dr0 h3 ?_
    obtain ⟨h4, hP⟩ := hP
    refine V_callV_i X [] kw_RX8_228 ki_X5_standingOnes ks_X5_standingOnes ksg_X5_standingOnes (m_X5_standingOnes l G N0 _ _ _ hP) h4 (by decide) rfl rfl ⟨Nat.le_of_ble_eq_true rfl, Nat.le_of_ble_eq_true rfl⟩ (Nat.le_of_ble_eq_true rfl) ⟨Nat.le_of_ble_eq_true rfl, Nat.le_of_ble_eq_true rfl⟩ rfl dX8_count_48 (fun r2 σ2 hP => ?_)
    exact V_iret X hr (Or.inl rfl) (Nat.le_of_ble_eq_true rfl) (Nat.le_of_ble_eq_true rfl) dX8_count_51 ⟨_, rfl, hP⟩
  · have hP := hP.2.2.1 h1
    refine V_tabIn X (tgt := 52) (off := 51) dX8_count_1 (by omega) (by omega) (by rw [h1]; rfl) (by decide) ?_
    refine V_aload_n X dX8_count_52 rfl 0 rfl ?_
    obtain ⟨h5, hP⟩ := hP
    refine V_getr X kf_RX8_12 rfl h5 dX8_count_53 ?_
    obtain ⟨b3, h6, hP⟩ := hP
    refine V_dr0 h6 ?_
    obtain ⟨h7, hP⟩ := hP
    refine V_callV_i X [] kw_RX8_88 ki_X5_known ks_X5_known ksg_X5_known (m_X5_known l G N0 _ _ _ hP) h7 (by decide) rfl rfl ⟨Nat.le_of_ble_eq_true rfl, Nat.le_of_ble_eq_true rfl⟩ (Nat.le_of_ble_eq_true rfl) ⟨Nat.le_of_ble_eq_true rfl, Nat.le_of_ble_eq_true rfl⟩ rfl dX8_count_56 (fun r4 σ4 hP => ?_)
    exact V_iret X hr (Or.inl rfl) (Nat.le_of_ble_eq_true rfl) (Nat.le_of_ble_eq_true rfl) dX8_count_59 ⟨_, rfl, hP⟩
  · have hP := hP.2.2.2.1 h1
    refine V_tabIn X (tgt := 60) (off := 59) dX8_count_1 (by omega) (by omega) (by rw [h1]; rfl) (by decide) ?_
    refine V_aload_n X dX8_count_60 rfl 0 rfl ?_
    obtain ⟨h8, hP⟩ := hP
    refine V_getr X kf_RX8_39 rfl h8 dX8_count_61 ?_
    obtain ⟨b5, h9, hP⟩ := hP
    refine V_dr0 h9 ?_
    obtain ⟨h10, hP⟩ := hP
    refine V_callV_i X [] kw_RX8_162 ki_X6_parts ks_X6_parts ksg_X6_parts (m_X6_parts l G N0 _ _ _ hP) h10 (by decide) rfl rfl ⟨Nat.le_of_ble_eq_true rfl, Nat.le_of_ble_eq_true rfl⟩ (Nat.le_of_ble_eq_true rfl) ⟨Nat.le_of_ble_eq_true rfl, Nat.le_of_ble_eq_true rfl⟩ rfl dX8_count_64 (fun r6 σ6 hP => ?_)
    exact V_iret X hr (Or.inl rfl) (Nat.le_of_ble_eq_true rfl) (Nat.le_of_ble_eq_true rfl) dX8_count_67 ⟨_, rfl, hP⟩
  · have hP := hP.2.2.2.2.1 h1
    refine V_tabIn X (tgt := 68) (off := 67) dX8_count_1 (by omega) (by omega) (by rw [h1]; rfl) (by decide) ?_
    refine V_aload_n X dX8_count_68 rfl 0 rfl ?_
    obtain ⟨h11, hP⟩ := hP
    refine V_geti X kf_RX8_43 rfl h11 dX8_count_69 ?_
    exact V_iret X hr (Or.inl rfl) (Nat.le_of_ble_eq_true rfl) (Nat.le_of_ble_eq_true rfl) dX8_count_72 ⟨_, rfl, hP⟩
  · have hP := hP.2.2.2.2.2.1 h1
    refine V_tabIn X (tgt := 73) (off := 72) dX8_count_1 (by omega) (by omega) (by rw [h1]; rfl) (by decide) ?_
    refine V_aload_n X dX8_count_73 rfl 0 rfl ?_
    obtain ⟨h12, hP⟩ := hP
    refine V_getr X kf_RX8_19 rfl h12 dX8_count_74 ?_
    obtain ⟨b7, h13, hP⟩ := hP
    refine V_dr0 h13 ?_
    obtain ⟨h14, hP⟩ := hP
    refine V_callV_i X [] kw_RX8_215 ki_X0_length ks_X0_length ksg_X0_length (m_X0_length l G N0 _ _ _ hP) h14 (by decide) rfl rfl ⟨Nat.le_of_ble_eq_true rfl, Nat.le_of_ble_eq_true rfl⟩ (Nat.le_of_ble_eq_true rfl) ⟨Nat.le_of_ble_eq_true rfl, Nat.le_of_ble_eq_true rfl⟩ rfl dX8_count_77 (fun r8 σ8 hP => ?_)
    exact V_iret X hr (Or.inl rfl) (Nat.le_of_ble_eq_true rfl) (Nat.le_of_ble_eq_true rfl) dX8_count_80 ⟨_, rfl, hP⟩
  · have hP := hP.2.2.2.2.2.2.1 h1
    refine V_tabIn X (tgt := 81) (off := 80) dX8_count_1 (by omega) (by omega) (by rw [h1]; rfl) (by decide) ?_
    refine V_aload_n X dX8_count_81 rfl 0 rfl ?_
    obtain ⟨h15, hP⟩ := hP
    refine V_getr X kf_RX8_26 rfl h15 dX8_count_82 ?_
    obtain ⟨b9, h16, hP⟩ := hP
    refine V_dr0 h16 ?_
    obtain ⟨h17, hP⟩ := hP
    refine V_callV_i X [] kw_RX8_138 ki_X7_length ks_X7_length ksg_X7_length (m_X7_length l G N0 _ _ _ hP) h17 (by decide) rfl rfl ⟨Nat.le_of_ble_eq_true rfl, Nat.le_of_ble_eq_true rfl⟩ (Nat.le_of_ble_eq_true rfl) ⟨Nat.le_of_ble_eq_true rfl, Nat.le_of_ble_eq_true rfl⟩ rfl dX8_count_85 (fun r10 σ10 hP => ?_)
    exact V_iret X hr (Or.inl rfl) (Nat.le_of_ble_eq_true rfl) (Nat.le_of_ble_eq_true rfl) dX8_count_88 ⟨_, rfl, hP⟩
  · have hP := hP.2.2.2.2.2.2.2 h1
    refine V_tabIn X (tgt := 89) (off := 88) dX8_count_1 (by omega) (by omega) (by rw [h1]; rfl) (by decide) ?_
    refine V_aload_n X dX8_count_89 rfl 0 rfl ?_
    obtain ⟨h18, hP⟩ := hP
    refine V_geti X kf_RX8_47 rfl h18 dX8_count_90 ?_
    exact V_iret X hr (Or.inl rfl) (Nat.le_of_ble_eq_true rfl) (Nat.le_of_ble_eq_true rfl) dX8_count_93 ⟨_, rfl, hP⟩
def P_X8_readerAt (a0 : Nat) (x1 : Int32) (σ : Hp) (post : Option Nat → Hp → Prop) : Prop :=
  (x1 < 0 → post none σ) ∧ (¬ (x1 < 0) → gk σ a0 = some (8, 0) ∧ ∃ b1 : Nat, (gr σ a0 3) = some b1 ∧ ∃ n2 : Nat, gk σ b1 = some (12, n2) ∧ ((Int32.ofNat n2) ≤ x1 → post none σ) ∧ (¬ ((Int32.ofNat n2) ≤ x1) → vp_in x1 n2 ∧ post (gr σ b1 (Int32.toNatClampNeg x1)) σ))
set_option maxHeartbeats 2000000 in
set_option maxRecDepth 100000 in
theorem m_X8_readerAt (l : Launch) (G : GG) (N0 : Nat) (a0 : Nat) (x1 : Int32) (σ : Hp) (post : Option Nat → Hp → Prop) (hP : P_X8_readerAt a0 x1 σ post) : MM l G N0 yX8_readerAt cX8_readerAt 2 (some (.object "PaperRows$Reader")) (0) (0) 0 0 [.ref a0, .int x1] σ (pR post) := by
  refine MM.of (by decide) (Nat.le_of_ble_eq_true rfl) ?_
  intro p e s m args below meth c X hr hnm
  refine V.to (lv2 := [(0, .ref a0), (1, .int x1)]) [0, 1] rfl rfl ?_
  unfold P_X8_readerAt at hP
  refine V_iload_n X dX8_readerAt_0 rfl 1 rfl ?_
  refine V_if_lt X (tgt := 22) dX8_readerAt_1 (by decide) (fun h1 => ?_) (fun h1 => ?_)
  · have hP := hP.1 h1
    refine V_null X dX8_readerAt_22 ?_
    exact V_aret X (v := none) hr (Or.inl ⟨_, rfl⟩) (Nat.le_of_ble_eq_true rfl) (Nat.le_of_ble_eq_true rfl) dX8_readerAt_23 ⟨_, rfl, hP⟩
  · have hP := hP.2 h1
    refine V_iload_n X dX8_readerAt_4 rfl 1 rfl ?_
    refine V_aload_n X dX8_readerAt_5 rfl 0 rfl ?_
    obtain ⟨h2, hP⟩ := hP
    refine V_getr X kf_RX8_32 rfl h2 dX8_readerAt_6 ?_
    obtain ⟨b1, h3, hP⟩ := hP
    refine V_dr0 h3 ?_
    obtain ⟨n2, h4, hP⟩ := hP
    refine V_alen X (Or.inr (Or.inr (Or.inl rfl))) h4 dX8_readerAt_9 ?_
    refine V_icmp_ge X (tgt := 22) dX8_readerAt_10 (by decide) (fun h5 => ?_) (fun h5 => ?_)
    · have hP := hP.1 h5
      refine V_null X dX8_readerAt_22 ?_
      exact V_aret X (v := none) hr (Or.inl ⟨_, rfl⟩) (Nat.le_of_ble_eq_true rfl) (Nat.le_of_ble_eq_true rfl) dX8_readerAt_23 ⟨_, rfl, hP⟩
    · have hP := hP.2 h5
      refine V_aload_n X dX8_readerAt_13 rfl 0 rfl ?_
      refine V_getr X kf_RX8_32 rfl h2 dX8_readerAt_14 ?_
      refine V_iload_n X dX8_readerAt_17 rfl 1 rfl ?_
      refine V_dr1 h3 ?_
      obtain ⟨h6, hP⟩ := hP
      refine V_aald X (Or.inl rfl) h4 h6 dX8_readerAt_18 ?_
      refine V_goto X (tgt := 23) dX8_readerAt_19 (by decide) ?_
      exact V_aret X (v := (gr σ b1 (Int32.toNatClampNeg x1))) hr (Or.inl ⟨_, rfl⟩) (Nat.le_of_ble_eq_true rfl) (Nat.le_of_ble_eq_true rfl) dX8_readerAt_23 ⟨_, rfl, hP⟩
def P_X8_refused (a0 : Nat) (x1 : Int32) (σ : Hp) (post : Int32 → Hp → Prop) : Prop :=
  gk σ a0 = some (8, 0) ∧ post x1 (si σ a0 8 x1)
set_option maxHeartbeats 2000000 in
set_option maxRecDepth 100000 in
theorem m_X8_refused (l : Launch) (G : GG) (N0 : Nat) (a0 : Nat) (x1 : Int32) (σ : Hp) (post : Int32 → Hp → Prop) (hP : P_X8_refused a0 x1 σ post) : MM l G N0 yX8_refused cX8_refused 2 (some .int) (0) (0) 0 0 [.ref a0, .int x1] σ (pI post) := by
  refine MM.of (by decide) (Nat.le_of_ble_eq_true rfl) ?_
  intro p e s m args below meth c X hr hnm
  refine V.to (lv2 := [(0, .ref a0), (1, .int x1)]) [0, 1] rfl rfl ?_
  unfold P_X8_refused at hP
  refine V_aload_n X dX8_refused_0 rfl 0 rfl ?_
  refine V_iload_n X dX8_refused_1 rfl 1 rfl ?_
  obtain ⟨h1, hP⟩ := hP
  refine V_puti X kf_RX8_53 (fun h => by cases h) rfl h1 (Or.inl rfl) dX8_refused_2 ?_
  refine V_iload_n X dX8_refused_5 rfl 1 rfl ?_
  exact V_iret X hr (Or.inl rfl) (Nat.le_of_ble_eq_true rfl) (Nat.le_of_ble_eq_true rfl) dX8_refused_6 ⟨_, rfl, hP⟩
def P_X8_tell (a0 : Nat) (a1 : Nat) (σ : Hp) (post : Hp → Prop) : Prop :=
  gk σ a0 = some (8, 0) ∧ ∃ b1 : Nat, (gr σ a0 0) = some b1 ∧ gk σ b1 = some (5, 0) ∧ P_X5_put b1 a1 σ (fun (σ2 : Hp) => gk σ2 a0 = some (8, 0) ∧ ∃ b3 : Nat, (gr σ2 a0 1) = some b3 ∧ gk σ2 b3 = some (0, 0) ∧ P_X0_add b3 a1 σ2 (fun (σ4 : Hp) => post σ4))
set_option maxHeartbeats 2000000 in
set_option maxRecDepth 100000 in
theorem m_X8_tell (l : Launch) (G : GG) (N0 : Nat) (a0 : Nat) (a1 : Nat) (σ : Hp) (post : Hp → Prop) (hP : P_X8_tell a0 a1 σ post) : MM l G N0 yX8_tell cX8_tell 2 none (2) (47) 0 0 [.ref a0, .ref a1] σ (pV post) := by
  refine MM.of (by decide) (Nat.le_of_ble_eq_true rfl) ?_
  intro p e s m args below meth c X hr hnm
  refine V.to (lv2 := [(0, .ref a0), (1, .ref a1)]) [0, 1] rfl rfl ?_
  unfold P_X8_tell at hP
  refine V_aload_n X dX8_tell_0 rfl 0 rfl ?_
  obtain ⟨h1, hP⟩ := hP
  refine V_getr X kf_RX8_12 rfl h1 dX8_tell_1 ?_
  refine V_aload_n X dX8_tell_4 rfl 1 rfl ?_
  obtain ⟨b1, h2, hP⟩ := hP
  refine V_dr1 h2 ?_
  obtain ⟨h3, hP⟩ := hP
  refine V_callV_v X [.ref a1] kw_RX8_223 ki_X5_put ks_X5_put ksg_X5_put (m_X5_put l G N0 _ _ _ _ hP) h3 (by decide) rfl rfl ⟨Nat.le_of_ble_eq_true rfl, Nat.le_of_ble_eq_true rfl⟩ (Nat.le_of_ble_eq_true rfl) ⟨Nat.le_of_ble_eq_true rfl, Nat.le_of_ble_eq_true rfl⟩ rfl dX8_tell_5 (fun σ2 hP => ?_)
  refine V_aload_n X dX8_tell_8 rfl 0 rfl ?_
  obtain ⟨h4, hP⟩ := hP
  refine V_getr X kf_RX8_19 rfl h4 dX8_tell_9 ?_
  refine V_aload_n X dX8_tell_12 rfl 1 rfl ?_
  obtain ⟨b3, h5, hP⟩ := hP
  refine V_dr1 h5 ?_
  obtain ⟨h6, hP⟩ := hP
  refine V_callV_v X [.ref a1] kw_RX8_231 ki_X0_add ks_X0_add ksg_X0_add (m_X0_add l G N0 _ _ _ _ hP) h6 (by decide) rfl rfl ⟨Nat.le_of_ble_eq_true rfl, Nat.le_of_ble_eq_true rfl⟩ (Nat.le_of_ble_eq_true rfl) ⟨Nat.le_of_ble_eq_true rfl, Nat.le_of_ble_eq_true rfl⟩ rfl dX8_tell_13 (fun σ4 hP => ?_)
  exact V_vret X hr (Nat.le_of_ble_eq_true rfl) (Nat.le_of_ble_eq_true rfl) dX8_tell_16 ⟨rfl, hP⟩
def P_X8_edit (a0 : Nat) (x1 : Int32) (x2 : Int32) (x3 : Int32) (σ : Hp) (post : Int32 → Hp → Prop) : Prop :=
  P_X8_isValue x3 σ (fun (r1 : Int32) (σ1 : Hp) => (¬ r1 = 0 → gk σ1 a0 = some (8, 0) ∧ P_X8_readerAt a0 x1 σ1 (fun (r2 : Option Nat) (σ2 : Hp) => (r2 = none → gk σ2 a0 = some (8, 0) ∧ P_X8_refused a0 (-2 : Int32) σ2 (fun (r4 : Int32) (σ4 : Hp) => post r4 σ4)) ∧ (∀ b3 : Nat, r2 = some b3 → gk σ2 b3 = some (3, 0) ∧ ∃ b5 : Nat, (gr σ2 b3 1) = some b5 ∧ gk σ2 b5 = some (1, 0) ∧ P_X1_isValueAt b5 x2 σ2 (fun (r6 : Int32) (σ6 : Hp) => (r6 = 0 → ((none : Option Nat) = none → gk σ6 a0 = some (8, 0) ∧ P_X8_refused a0 (-3 : Int32) σ6 (fun (r8 : Int32) (σ8 : Hp) => post r8 σ8)) ∧ (∀ b7 : Nat, (none : Option Nat) = some b7 → gk σ6 b7 = some (4, 0) ∧ gk σ6 b3 = some (3, 0) ∧ ∃ b9 : Nat, (gr σ6 b3 1) = some b9 ∧ gk σ6 b9 = some (1, 0) ∧ P_X1_at b9 x2 σ6 (fun (r10 : Int32) (σ10 : Hp) => ((gi σ6 b7 2) = r10 → gk σ10 a0 = some (8, 0) ∧ ∃ b11 : Nat, (gr σ10 a0 1) = some b11 ∧ gk σ10 b11 = some (0, 0) ∧ P_X0_isFull b11 σ10 (fun (r12 : Int32) (σ12 : Hp) => (r12 = 0 → gk σ12 b7 = some (4, 0) ∧ P_X4_withValue b7 x3 σ12 (fun (r13 : Option Nat) (σ13 : Hp) => ∃ b14 : Nat, r13 = some b14 ∧ gk σ13 a0 = some (8, 0) ∧ P_X8_tell a0 b14 σ13 (fun (σ15 : Hp) => gk σ15 b3 = some (3, 0) ∧ ∃ b16 : Nat, (gr σ15 b3 1) = some b16 ∧ gk σ15 b16 = some (1, 0) ∧ P_X1_put b16 x2 x3 σ15 (fun (σ17 : Hp) => gk σ17 b7 = some (4, 0) ∧ gk σ17 a0 = some (8, 0) ∧ P_X8_answered a0 (gi σ17 b7 0) σ17 (fun (r18 : Int32) (σ18 : Hp) => post r18 σ18))))) ∧ (¬ (r12 = 0) → gk σ12 a0 = some (8, 0) ∧ P_X8_refused a0 (-5 : Int32) σ12 (fun (r19 : Int32) (σ19 : Hp) => post r19 σ19)))) ∧ (¬ ((gi σ6 b7 2) = r10) → gk σ10 a0 = some (8, 0) ∧ P_X8_refused a0 (-3 : Int32) σ10 (fun (r20 : Int32) (σ20 : Hp) => post r20 σ20))))) ∧ (¬ (r6 = 0) → gk σ6 a0 = some (8, 0) ∧ gk σ6 b3 = some (3, 0) ∧ ∃ b21 : Nat, (gr σ6 b3 1) = some b21 ∧ gk σ6 b21 = some (1, 0) ∧ P_X1_rowAround b21 x2 σ6 (fun (r22 : Int32) (σ22 : Hp) => ∃ b23 : Nat, (gr σ6 a0 0) = some b23 ∧ gk σ22 b23 = some (5, 0) ∧ P_X5_standing b23 r22 σ22 (fun (r24 : Option Nat) (σ24 : Hp) => (r24 = none → gk σ24 a0 = some (8, 0) ∧ P_X8_refused a0 (-3 : Int32) σ24 (fun (r26 : Int32) (σ26 : Hp) => post r26 σ26)) ∧ (∀ b25 : Nat, r24 = some b25 → gk σ24 b25 = some (4, 0) ∧ gk σ24 b3 = some (3, 0) ∧ ∃ b27 : Nat, (gr σ24 b3 1) = some b27 ∧ gk σ24 b27 = some (1, 0) ∧ P_X1_at b27 x2 σ24 (fun (r28 : Int32) (σ28 : Hp) => ((gi σ24 b25 2) = r28 → gk σ28 a0 = some (8, 0) ∧ ∃ b29 : Nat, (gr σ28 a0 1) = some b29 ∧ gk σ28 b29 = some (0, 0) ∧ P_X0_isFull b29 σ28 (fun (r30 : Int32) (σ30 : Hp) => (r30 = 0 → gk σ30 b25 = some (4, 0) ∧ P_X4_withValue b25 x3 σ30 (fun (r31 : Option Nat) (σ31 : Hp) => ∃ b32 : Nat, r31 = some b32 ∧ gk σ31 a0 = some (8, 0) ∧ P_X8_tell a0 b32 σ31 (fun (σ33 : Hp) => gk σ33 b3 = some (3, 0) ∧ ∃ b34 : Nat, (gr σ33 b3 1) = some b34 ∧ gk σ33 b34 = some (1, 0) ∧ P_X1_put b34 x2 x3 σ33 (fun (σ35 : Hp) => gk σ35 b25 = some (4, 0) ∧ gk σ35 a0 = some (8, 0) ∧ P_X8_answered a0 (gi σ35 b25 0) σ35 (fun (r36 : Int32) (σ36 : Hp) => post r36 σ36))))) ∧ (¬ (r30 = 0) → gk σ30 a0 = some (8, 0) ∧ P_X8_refused a0 (-5 : Int32) σ30 (fun (r37 : Int32) (σ37 : Hp) => post r37 σ37)))) ∧ (¬ ((gi σ24 b25 2) = r28) → gk σ28 a0 = some (8, 0) ∧ P_X8_refused a0 (-3 : Int32) σ28 (fun (r38 : Int32) (σ38 : Hp) => post r38 σ38))))))))))) ∧ (r1 = 0 → gk σ1 a0 = some (8, 0) ∧ P_X8_refused a0 (-1 : Int32) σ1 (fun (r39 : Int32) (σ39 : Hp) => post r39 σ39)))
set_option maxHeartbeats 2000000 in
set_option maxRecDepth 100000 in
theorem m_X8_edit (l : Launch) (G : GG) (N0 : Nat) (a0 : Nat) (x1 : Int32) (x2 : Int32) (x3 : Int32) (σ : Hp) (post : Int32 → Hp → Prop) (hP : P_X8_edit a0 x1 x2 x3 σ post) : MM l G N0 yX8_edit cX8_edit 6 (some .int) (3) (68) 1 6 [.ref a0, .int x1, .int x2, .int x3] σ (pI post) := by
  refine MM.of (by decide) (Nat.le_of_ble_eq_true rfl) ?_
  intro p e s m args below meth c X hr hnm
  refine V.to (lv2 := [(0, .ref a0), (1, .int x1), (2, .int x2), (3, .int x3)]) [0, 1, 2, 3] rfl rfl ?_
  unfold P_X8_edit at hP
  refine V_iload_n X dX8_edit_0 rfl 3 rfl ?_
  refine V_callS_i X [.int x3] kw_RX8_72 ki_X8_isValue (m_X8_isValue l G N0 _ _ _ hP) rfl ⟨Nat.le_of_ble_eq_true rfl, Nat.le_of_ble_eq_true rfl⟩ (Nat.le_of_ble_eq_true rfl) ⟨Nat.le_of_ble_eq_true rfl, Nat.le_of_ble_eq_true rfl⟩ rfl dX8_edit_1 (fun r1 σ1 hP => ?_)
  refine V_if_ne X (tgt := 13) dX8_edit_4 (by decide) (fun h1 => ?_) (fun h1 => ?_)
  · have hP := hP.1 h1
    refine V_aload_n X dX8_edit_13 rfl 0 rfl ?_
    refine V_iload_n X dX8_edit_14 rfl 1 rfl ?_
    obtain ⟨h2, hP⟩ := hP
    refine V_callV_r X [.int x1] kw_RX8_197 ki_X8_readerAt ks_X8_readerAt ksg_X8_readerAt (m_X8_readerAt l G N0 _ _ _ _ hP) h2 (by decide) rfl rfl ⟨Nat.le_of_ble_eq_true rfl, Nat.le_of_ble_eq_true rfl⟩ (Nat.le_of_ble_eq_true rfl) ⟨Nat.le_of_ble_eq_true rfl, Nat.le_of_ble_eq_true rfl⟩ rfl dX8_edit_15 (fun r2 σ2 hP => ?_)
    refine V_astorer X (x := r2) (lv' := [(4, va_rf r2), (0, .ref a0), (1, .int x1), (2, .int x2), (3, .int x3)]) dX8_edit_18 (by decide) rfl ?_
    refine V_aloadr X dX8_edit_20 0 rfl ?_
    refine V_ifnonnull X (tgt := 32) dX8_edit_22 (by decide) (fun b3 h3 => ?_) (fun h3 => ?_)
    · have hP := hP.2 b3 h3
      refine V_aloadr X dX8_edit_32 0 rfl ?_
      refine V_dr0 h3 ?_
      obtain ⟨h5, hP⟩ := hP
      refine V_getr X kf_RX8_186 rfl h5 dX8_edit_34 ?_
      refine V_iload_n X dX8_edit_37 rfl 3 rfl ?_
      obtain ⟨b5, h6, hP⟩ := hP
      refine V_dr1 h6 ?_
      obtain ⟨h7, hP⟩ := hP
      refine V_callV_i X [.int x2] kw_RX8_201 ki_X1_isValueAt ks_X1_isValueAt ksg_X1_isValueAt (m_X1_isValueAt l G N0 _ _ _ _ hP) h7 (by decide) rfl rfl ⟨Nat.le_of_ble_eq_true rfl, Nat.le_of_ble_eq_true rfl⟩ (Nat.le_of_ble_eq_true rfl) ⟨Nat.le_of_ble_eq_true rfl, Nat.le_of_ble_eq_true rfl⟩ rfl dX8_edit_38 (fun r6 σ6 hP => ?_)
      refine V_if_eq X (tgt := 63) dX8_edit_41 (by decide) (fun h8 => ?_) (fun h8 => ?_)
      · have hP := hP.1 h8
        refine V_null X dX8_edit_63 ?_
        refine V_astorer X (x := (none : Option Nat)) (lv' := [(5, va_rf (none : Option Nat)), (4, va_rf r2), (0, .ref a0), (1, .int x1), (2, .int x2), (3, .int x3)]) dX8_edit_64 (by decide) (by simp [vcat]) ?_
        refine V_aloadr X dX8_edit_66 0 rfl ?_
        refine V_ifnull X (tgt := 88) dX8_edit_68 (by decide) (fun h9 => ?_) (fun b7 h9 => ?_)
        · have hP := hP.1 h9
          refine V_aload_n X dX8_edit_88 rfl 2 rfl ?_
          refine V_bipush X (v := (-3 : Int32)) dX8_edit_89 (by decide) ?_
          obtain ⟨h10, hP⟩ := hP
          refine V_callV_i X [.int (-3 : Int32)] kw_RX8_76 ki_X8_refused ks_X8_refused ksg_X8_refused (m_X8_refused l G N0 _ _ _ _ hP) h10 (by decide) rfl rfl ⟨Nat.le_of_ble_eq_true rfl, Nat.le_of_ble_eq_true rfl⟩ (Nat.le_of_ble_eq_true rfl) ⟨Nat.le_of_ble_eq_true rfl, Nat.le_of_ble_eq_true rfl⟩ rfl dX8_edit_91 (fun r8 σ8 hP => ?_)
          exact V_iret X hr (Or.inl rfl) (Nat.le_of_ble_eq_true rfl) (Nat.le_of_ble_eq_true rfl) dX8_edit_94 ⟨_, rfl, hP⟩
        · have hP := hP.2 b7 h9
          refine V_aloadr X dX8_edit_71 0 rfl ?_
          refine V_dr0 h9 ?_
          obtain ⟨h11, hP⟩ := hP
          refine V_geti X kf_RX8_111 rfl h11 dX8_edit_73 ?_
          refine V_aloadr X dX8_edit_76 1 rfl ?_
          refine V_dr0 h3 ?_
          obtain ⟨h12, hP⟩ := hP
          refine V_getr X kf_RX8_186 rfl h12 dX8_edit_78 ?_
          refine V_iload_n X dX8_edit_81 rfl 4 rfl ?_
          obtain ⟨b9, h13, hP⟩ := hP
          refine V_dr1 h13 ?_
          obtain ⟨h14, hP⟩ := hP
          refine V_callV_i X [.int x2] kw_RX8_170 ki_X1_at ks_X1_at ksg_X1_at (m_X1_at l G N0 _ _ _ _ hP) h14 (by decide) rfl rfl ⟨Nat.le_of_ble_eq_true rfl, Nat.le_of_ble_eq_true rfl⟩ (Nat.le_of_ble_eq_true rfl) ⟨Nat.le_of_ble_eq_true rfl, Nat.le_of_ble_eq_true rfl⟩ rfl dX8_edit_82 (fun r10 σ10 hP => ?_)
          refine V_icmp_eq X (tgt := 95) dX8_edit_85 (by decide) (fun h15 => ?_) (fun h15 => ?_)
          · have hP := hP.1 h15
            refine V_aload_n X dX8_edit_95 rfl 2 rfl ?_
            obtain ⟨h16, hP⟩ := hP
            refine V_getr X kf_RX8_19 rfl h16 dX8_edit_96 ?_
            obtain ⟨b11, h17, hP⟩ := hP
            refine V_dr0 h17 ?_
            obtain ⟨h18, hP⟩ := hP
            refine V_callV_i X [] kw_RX8_87 ki_X0_isFull ks_X0_isFull ksg_X0_isFull (m_X0_isFull l G N0 _ _ _ hP) h18 (by decide) rfl rfl ⟨Nat.le_of_ble_eq_true rfl, Nat.le_of_ble_eq_true rfl⟩ (Nat.le_of_ble_eq_true rfl) ⟨Nat.le_of_ble_eq_true rfl, Nat.le_of_ble_eq_true rfl⟩ rfl dX8_edit_99 (fun r12 σ12 hP => ?_)
            refine V_if_eq X (tgt := 112) dX8_edit_102 (by decide) (fun h19 => ?_) (fun h19 => ?_)
            · have hP := hP.1 h19
              refine V_aload_n X dX8_edit_112 rfl 2 rfl ?_
              refine V_aloadr X dX8_edit_113 0 rfl ?_
              refine V_iload_n X dX8_edit_115 rfl 5 rfl ?_
              refine V_dr1 h9 ?_
              obtain ⟨h20, hP⟩ := hP
              refine V_callV_r X [.int x3] kw_RX8_108 ki_X4_withValue ks_X4_withValue ksg_X4_withValue (m_X4_withValue l G N0 _ _ _ _ hP) h20 (by decide) rfl rfl ⟨Nat.le_of_ble_eq_true rfl, Nat.le_of_ble_eq_true rfl⟩ (Nat.le_of_ble_eq_true rfl) ⟨Nat.le_of_ble_eq_true rfl, Nat.le_of_ble_eq_true rfl⟩ rfl dX8_edit_116 (fun r13 σ13 hP => ?_)
              obtain ⟨b14, h21, hP⟩ := hP
              refine V_dr0 h21 ?_
              obtain ⟨h22, hP⟩ := hP
              refine V_callV_v X [.ref b14] kw_RX8_97 ki_X8_tell ks_X8_tell ksg_X8_tell (m_X8_tell l G N0 _ _ _ _ hP) h22 (by decide) rfl rfl ⟨Nat.le_of_ble_eq_true rfl, Nat.le_of_ble_eq_true rfl⟩ (Nat.le_of_ble_eq_true rfl) ⟨Nat.le_of_ble_eq_true rfl, Nat.le_of_ble_eq_true rfl⟩ rfl dX8_edit_119 (fun σ15 hP => ?_)
              refine V_aloadr X dX8_edit_122 1 rfl ?_
              refine V_dr0 h3 ?_
              obtain ⟨h23, hP⟩ := hP
              refine V_getr X kf_RX8_186 rfl h23 dX8_edit_124 ?_
              refine V_iload_n X dX8_edit_127 rfl 4 rfl ?_
              refine V_iload_n X dX8_edit_128 rfl 5 rfl ?_
              obtain ⟨b16, h24, hP⟩ := hP
              refine V_dr2 h24 ?_
              obtain ⟨h25, hP⟩ := hP
              refine V_callV_v X [.int x2, .int x3] kw_RX8_207 ki_X1_put ks_X1_put ksg_X1_put (m_X1_put l G N0 _ _ _ _ _ hP) h25 (by decide) rfl rfl ⟨Nat.le_of_ble_eq_true rfl, Nat.le_of_ble_eq_true rfl⟩ (Nat.le_of_ble_eq_true rfl) ⟨Nat.le_of_ble_eq_true rfl, Nat.le_of_ble_eq_true rfl⟩ rfl dX8_edit_129 (fun σ17 hP => ?_)
              refine V_aload_n X dX8_edit_132 rfl 2 rfl ?_
              refine V_aloadr X dX8_edit_133 0 rfl ?_
              refine V_dr0 h9 ?_
              obtain ⟨h26, hP⟩ := hP
              refine V_geti X kf_RX8_211 rfl h26 dX8_edit_135 ?_
              obtain ⟨h27, hP⟩ := hP
              refine V_callV_i X [.int (gi σ17 b7 0)] kw_RX8_101 ki_X8_answered ks_X8_answered ksg_X8_answered (m_X8_answered l G N0 _ _ _ _ hP) h27 (by decide) rfl rfl ⟨Nat.le_of_ble_eq_true rfl, Nat.le_of_ble_eq_true rfl⟩ (Nat.le_of_ble_eq_true rfl) ⟨Nat.le_of_ble_eq_true rfl, Nat.le_of_ble_eq_true rfl⟩ rfl dX8_edit_138 (fun r18 σ18 hP => ?_)
              exact V_iret X hr (Or.inl rfl) (Nat.le_of_ble_eq_true rfl) (Nat.le_of_ble_eq_true rfl) dX8_edit_141 ⟨_, rfl, hP⟩
            · have hP := hP.2 h19
              refine V_aload_n X dX8_edit_105 rfl 2 rfl ?_
              refine V_bipush X (v := (-5 : Int32)) dX8_edit_106 (by decide) ?_
              obtain ⟨h28, hP⟩ := hP
              refine V_callV_i X [.int (-5 : Int32)] kw_RX8_76 ki_X8_refused ks_X8_refused ksg_X8_refused (m_X8_refused l G N0 _ _ _ _ hP) h28 (by decide) rfl rfl ⟨Nat.le_of_ble_eq_true rfl, Nat.le_of_ble_eq_true rfl⟩ (Nat.le_of_ble_eq_true rfl) ⟨Nat.le_of_ble_eq_true rfl, Nat.le_of_ble_eq_true rfl⟩ rfl dX8_edit_108 (fun r19 σ19 hP => ?_)
              exact V_iret X hr (Or.inl rfl) (Nat.le_of_ble_eq_true rfl) (Nat.le_of_ble_eq_true rfl) dX8_edit_111 ⟨_, rfl, hP⟩
          · have hP := hP.2 h15
            refine V_aload_n X dX8_edit_88 rfl 2 rfl ?_
            refine V_bipush X (v := (-3 : Int32)) dX8_edit_89 (by decide) ?_
            obtain ⟨h29, hP⟩ := hP
            refine V_callV_i X [.int (-3 : Int32)] kw_RX8_76 ki_X8_refused ks_X8_refused ksg_X8_refused (m_X8_refused l G N0 _ _ _ _ hP) h29 (by decide) rfl rfl ⟨Nat.le_of_ble_eq_true rfl, Nat.le_of_ble_eq_true rfl⟩ (Nat.le_of_ble_eq_true rfl) ⟨Nat.le_of_ble_eq_true rfl, Nat.le_of_ble_eq_true rfl⟩ rfl dX8_edit_91 (fun r20 σ20 hP => ?_)
            exact V_iret X hr (Or.inl rfl) (Nat.le_of_ble_eq_true rfl) (Nat.le_of_ble_eq_true rfl) dX8_edit_94 ⟨_, rfl, hP⟩
      · have hP := hP.2 h8
        refine V_aload_n X dX8_edit_44 rfl 1 rfl ?_
        obtain ⟨h30, hP⟩ := hP
        refine V_getr X kf_RX8_12 rfl h30 dX8_edit_45 ?_
        refine V_aloadr X dX8_edit_48 0 rfl ?_
        refine V_dr0 h3 ?_
        obtain ⟨h31, hP⟩ := hP
        refine V_getr X kf_RX8_186 rfl h31 dX8_edit_50 ?_
        refine V_iload_n X dX8_edit_53 rfl 3 rfl ?_
        obtain ⟨b21, h32, hP⟩ := hP
        refine V_dr1 h32 ?_
        obtain ⟨h33, hP⟩ := hP
        refine V_callV_i X [.int x2] kw_RX8_204 ki_X1_rowAround ks_X1_rowAround ksg_X1_rowAround (m_X1_rowAround l G N0 _ _ _ _ hP) h33 (by decide) rfl rfl ⟨Nat.le_of_ble_eq_true rfl, Nat.le_of_ble_eq_true rfl⟩ (by simp only [List.map_cons, vcat]; exact Nat.le_of_ble_eq_true rfl) ⟨Nat.le_of_ble_eq_true rfl, Nat.le_of_ble_eq_true rfl⟩ rfl dX8_edit_54 (fun r22 σ22 hP => ?_)
        obtain ⟨b23, h34, hP⟩ := hP
        refine V_dr1 h34 ?_
        obtain ⟨h35, hP⟩ := hP
        refine V_callV_r X [.int r22] kw_RX8_104 ki_X5_standing ks_X5_standing ksg_X5_standing (m_X5_standing l G N0 _ _ _ _ hP) h35 (by decide) rfl rfl ⟨Nat.le_of_ble_eq_true rfl, Nat.le_of_ble_eq_true rfl⟩ (Nat.le_of_ble_eq_true rfl) ⟨Nat.le_of_ble_eq_true rfl, Nat.le_of_ble_eq_true rfl⟩ rfl dX8_edit_57 (fun r24 σ24 hP => ?_)
        refine V_goto X (tgt := 64) dX8_edit_60 (by decide) ?_
        refine V_astorer X (x := r24) (lv' := [(5, va_rf r24), (4, va_rf r2), (0, .ref a0), (1, .int x1), (2, .int x2), (3, .int x3)]) dX8_edit_64 (by decide) (by simp [vcat]) ?_
        refine V_aloadr X dX8_edit_66 0 rfl ?_
        refine V_ifnull X (tgt := 88) dX8_edit_68 (by decide) (fun h36 => ?_) (fun b25 h36 => ?_)
        · have hP := hP.1 h36
          refine V_aload_n X dX8_edit_88 rfl 2 rfl ?_
          refine V_bipush X (v := (-3 : Int32)) dX8_edit_89 (by decide) ?_
          obtain ⟨h37, hP⟩ := hP
          refine V_callV_i X [.int (-3 : Int32)] kw_RX8_76 ki_X8_refused ks_X8_refused ksg_X8_refused (m_X8_refused l G N0 _ _ _ _ hP) h37 (by decide) rfl rfl ⟨Nat.le_of_ble_eq_true rfl, Nat.le_of_ble_eq_true rfl⟩ (Nat.le_of_ble_eq_true rfl) ⟨Nat.le_of_ble_eq_true rfl, Nat.le_of_ble_eq_true rfl⟩ rfl dX8_edit_91 (fun r26 σ26 hP => ?_)
          exact V_iret X hr (Or.inl rfl) (Nat.le_of_ble_eq_true rfl) (Nat.le_of_ble_eq_true rfl) dX8_edit_94 ⟨_, rfl, hP⟩
        · have hP := hP.2 b25 h36
          refine V_aloadr X dX8_edit_71 0 rfl ?_
          refine V_dr0 h36 ?_
          obtain ⟨h38, hP⟩ := hP
          refine V_geti X kf_RX8_111 rfl h38 dX8_edit_73 ?_
          refine V_aloadr X dX8_edit_76 1 rfl ?_
          refine V_dr0 h3 ?_
          obtain ⟨h39, hP⟩ := hP
          refine V_getr X kf_RX8_186 rfl h39 dX8_edit_78 ?_
          refine V_iload_n X dX8_edit_81 rfl 4 rfl ?_
          obtain ⟨b27, h40, hP⟩ := hP
          refine V_dr1 h40 ?_
          obtain ⟨h41, hP⟩ := hP
          refine V_callV_i X [.int x2] kw_RX8_170 ki_X1_at ks_X1_at ksg_X1_at (m_X1_at l G N0 _ _ _ _ hP) h41 (by decide) rfl rfl ⟨Nat.le_of_ble_eq_true rfl, Nat.le_of_ble_eq_true rfl⟩ (Nat.le_of_ble_eq_true rfl) ⟨Nat.le_of_ble_eq_true rfl, Nat.le_of_ble_eq_true rfl⟩ rfl dX8_edit_82 (fun r28 σ28 hP => ?_)
          refine V_icmp_eq X (tgt := 95) dX8_edit_85 (by decide) (fun h42 => ?_) (fun h42 => ?_)
          · have hP := hP.1 h42
            refine V_aload_n X dX8_edit_95 rfl 2 rfl ?_
            obtain ⟨h43, hP⟩ := hP
            refine V_getr X kf_RX8_19 rfl h43 dX8_edit_96 ?_
            obtain ⟨b29, h44, hP⟩ := hP
            refine V_dr0 h44 ?_
            obtain ⟨h45, hP⟩ := hP
            refine V_callV_i X [] kw_RX8_87 ki_X0_isFull ks_X0_isFull ksg_X0_isFull (m_X0_isFull l G N0 _ _ _ hP) h45 (by decide) rfl rfl ⟨Nat.le_of_ble_eq_true rfl, Nat.le_of_ble_eq_true rfl⟩ (Nat.le_of_ble_eq_true rfl) ⟨Nat.le_of_ble_eq_true rfl, Nat.le_of_ble_eq_true rfl⟩ rfl dX8_edit_99 (fun r30 σ30 hP => ?_)
            refine V_if_eq X (tgt := 112) dX8_edit_102 (by decide) (fun h46 => ?_) (fun h46 => ?_)
            · have hP := hP.1 h46
              refine V_aload_n X dX8_edit_112 rfl 2 rfl ?_
              refine V_aloadr X dX8_edit_113 0 rfl ?_
              refine V_iload_n X dX8_edit_115 rfl 5 rfl ?_
              refine V_dr1 h36 ?_
              obtain ⟨h47, hP⟩ := hP
              refine V_callV_r X [.int x3] kw_RX8_108 ki_X4_withValue ks_X4_withValue ksg_X4_withValue (m_X4_withValue l G N0 _ _ _ _ hP) h47 (by decide) rfl rfl ⟨Nat.le_of_ble_eq_true rfl, Nat.le_of_ble_eq_true rfl⟩ (Nat.le_of_ble_eq_true rfl) ⟨Nat.le_of_ble_eq_true rfl, Nat.le_of_ble_eq_true rfl⟩ rfl dX8_edit_116 (fun r31 σ31 hP => ?_)
              obtain ⟨b32, h48, hP⟩ := hP
              refine V_dr0 h48 ?_
              obtain ⟨h49, hP⟩ := hP
              refine V_callV_v X [.ref b32] kw_RX8_97 ki_X8_tell ks_X8_tell ksg_X8_tell (m_X8_tell l G N0 _ _ _ _ hP) h49 (by decide) rfl rfl ⟨Nat.le_of_ble_eq_true rfl, Nat.le_of_ble_eq_true rfl⟩ (Nat.le_of_ble_eq_true rfl) ⟨Nat.le_of_ble_eq_true rfl, Nat.le_of_ble_eq_true rfl⟩ rfl dX8_edit_119 (fun σ33 hP => ?_)
              refine V_aloadr X dX8_edit_122 1 rfl ?_
              refine V_dr0 h3 ?_
              obtain ⟨h50, hP⟩ := hP
              refine V_getr X kf_RX8_186 rfl h50 dX8_edit_124 ?_
              refine V_iload_n X dX8_edit_127 rfl 4 rfl ?_
              refine V_iload_n X dX8_edit_128 rfl 5 rfl ?_
              obtain ⟨b34, h51, hP⟩ := hP
              refine V_dr2 h51 ?_
              obtain ⟨h52, hP⟩ := hP
              refine V_callV_v X [.int x2, .int x3] kw_RX8_207 ki_X1_put ks_X1_put ksg_X1_put (m_X1_put l G N0 _ _ _ _ _ hP) h52 (by decide) rfl rfl ⟨Nat.le_of_ble_eq_true rfl, Nat.le_of_ble_eq_true rfl⟩ (Nat.le_of_ble_eq_true rfl) ⟨Nat.le_of_ble_eq_true rfl, Nat.le_of_ble_eq_true rfl⟩ rfl dX8_edit_129 (fun σ35 hP => ?_)
              refine V_aload_n X dX8_edit_132 rfl 2 rfl ?_
              refine V_aloadr X dX8_edit_133 0 rfl ?_
              refine V_dr0 h36 ?_
              obtain ⟨h53, hP⟩ := hP
              refine V_geti X kf_RX8_211 rfl h53 dX8_edit_135 ?_
              obtain ⟨h54, hP⟩ := hP
              refine V_callV_i X [.int (gi σ35 b25 0)] kw_RX8_101 ki_X8_answered ks_X8_answered ksg_X8_answered (m_X8_answered l G N0 _ _ _ _ hP) h54 (by decide) rfl rfl ⟨Nat.le_of_ble_eq_true rfl, Nat.le_of_ble_eq_true rfl⟩ (Nat.le_of_ble_eq_true rfl) ⟨Nat.le_of_ble_eq_true rfl, Nat.le_of_ble_eq_true rfl⟩ rfl dX8_edit_138 (fun r36 σ36 hP => ?_)
              exact V_iret X hr (Or.inl rfl) (Nat.le_of_ble_eq_true rfl) (Nat.le_of_ble_eq_true rfl) dX8_edit_141 ⟨_, rfl, hP⟩
            · have hP := hP.2 h46
              refine V_aload_n X dX8_edit_105 rfl 2 rfl ?_
              refine V_bipush X (v := (-5 : Int32)) dX8_edit_106 (by decide) ?_
              obtain ⟨h55, hP⟩ := hP
              refine V_callV_i X [.int (-5 : Int32)] kw_RX8_76 ki_X8_refused ks_X8_refused ksg_X8_refused (m_X8_refused l G N0 _ _ _ _ hP) h55 (by decide) rfl rfl ⟨Nat.le_of_ble_eq_true rfl, Nat.le_of_ble_eq_true rfl⟩ (Nat.le_of_ble_eq_true rfl) ⟨Nat.le_of_ble_eq_true rfl, Nat.le_of_ble_eq_true rfl⟩ rfl dX8_edit_108 (fun r37 σ37 hP => ?_)
              exact V_iret X hr (Or.inl rfl) (Nat.le_of_ble_eq_true rfl) (Nat.le_of_ble_eq_true rfl) dX8_edit_111 ⟨_, rfl, hP⟩
          · have hP := hP.2 h42
            refine V_aload_n X dX8_edit_88 rfl 2 rfl ?_
            refine V_bipush X (v := (-3 : Int32)) dX8_edit_89 (by decide) ?_
            obtain ⟨h56, hP⟩ := hP
            refine V_callV_i X [.int (-3 : Int32)] kw_RX8_76 ki_X8_refused ks_X8_refused ksg_X8_refused (m_X8_refused l G N0 _ _ _ _ hP) h56 (by decide) rfl rfl ⟨Nat.le_of_ble_eq_true rfl, Nat.le_of_ble_eq_true rfl⟩ (Nat.le_of_ble_eq_true rfl) ⟨Nat.le_of_ble_eq_true rfl, Nat.le_of_ble_eq_true rfl⟩ rfl dX8_edit_91 (fun r38 σ38 hP => ?_)
            exact V_iret X hr (Or.inl rfl) (Nat.le_of_ble_eq_true rfl) (Nat.le_of_ble_eq_true rfl) dX8_edit_94 ⟨_, rfl, hP⟩
    · have hP := hP.1 h3
      refine V_aload_n X dX8_edit_25 rfl 1 rfl ?_
      refine V_bipush X (v := (-2 : Int32)) dX8_edit_26 (by decide) ?_
      obtain ⟨h4, hP⟩ := hP
      refine V_callV_i X [.int (-2 : Int32)] kw_RX8_76 ki_X8_refused ks_X8_refused ksg_X8_refused (m_X8_refused l G N0 _ _ _ _ hP) h4 (by decide) rfl rfl ⟨Nat.le_of_ble_eq_true rfl, Nat.le_of_ble_eq_true rfl⟩ (Nat.le_of_ble_eq_true rfl) ⟨Nat.le_of_ble_eq_true rfl, Nat.le_of_ble_eq_true rfl⟩ rfl dX8_edit_28 (fun r4 σ4 hP => ?_)
      exact V_iret X hr (Or.inl rfl) (Nat.le_of_ble_eq_true rfl) (Nat.le_of_ble_eq_true rfl) dX8_edit_31 ⟨_, rfl, hP⟩
  · have hP := hP.2 h1
    refine V_aload_n X dX8_edit_7 rfl 0 rfl ?_
    refine V_iconst X (v := (-1 : Int32)) dX8_edit_8 (by decide) ?_
    obtain ⟨h57, hP⟩ := hP
    refine V_callV_i X [.int (-1 : Int32)] kw_RX8_76 ki_X8_refused ks_X8_refused ksg_X8_refused (m_X8_refused l G N0 _ _ _ _ hP) h57 (by decide) rfl rfl ⟨Nat.le_of_ble_eq_true rfl, Nat.le_of_ble_eq_true rfl⟩ (Nat.le_of_ble_eq_true rfl) ⟨Nat.le_of_ble_eq_true rfl, Nat.le_of_ble_eq_true rfl⟩ rfl dX8_edit_9 (fun r39 σ39 hP => ?_)
    exact V_iret X hr (Or.inl rfl) (Nat.le_of_ble_eq_true rfl) (Nat.le_of_ble_eq_true rfl) dX8_edit_12 ⟨_, rfl, hP⟩
def P_X8_end (a0 : Nat) (x1 : Int32) (σ : Hp) (post : Int32 → Hp → Prop) : Prop :=
  (x1 < 0 → post (-1 : Int32) σ) ∧ (¬ (x1 < 0) → gk σ a0 = some (8, 0) ∧ ∃ b1 : Nat, (gr σ a0 2) = some b1 ∧ gk σ b1 = some (7, 0) ∧ P_X7_length b1 σ (fun (r2 : Int32) (σ2 : Hp) => (x1 ≤ r2 → gk σ2 a0 = some (8, 0) ∧ ∃ b3 : Nat, (gr σ2 a0 2) = some b3 ∧ gk σ2 b3 = some (7, 0) ∧ P_X7_cutTo b3 x1 σ2 (fun (σ4 : Hp) => post x1 σ4)) ∧ (¬ (x1 ≤ r2) → post (-1 : Int32) σ2)))
set_option maxHeartbeats 2000000 in
set_option maxRecDepth 100000 in
theorem m_X8_end (l : Launch) (G : GG) (N0 : Nat) (a0 : Nat) (x1 : Int32) (σ : Hp) (post : Int32 → Hp → Prop) (hP : P_X8_end a0 x1 σ post) : MM l G N0 yX8_end cX8_end 2 (some .int) (2) (46) 0 0 [.ref a0, .int x1] σ (pI post) := by
  refine MM.of (by decide) (Nat.le_of_ble_eq_true rfl) ?_
  intro p e s m args below meth c X hr hnm
  refine V.to (lv2 := [(0, .ref a0), (1, .int x1)]) [0, 1] rfl rfl ?_
  unfold P_X8_end at hP
  refine V_iload_n X dX8_end_0 rfl 1 rfl ?_
  refine V_if_lt X (tgt := 15) dX8_end_1 (by decide) (fun h1 => ?_) (fun h1 => ?_)
  · have hP := hP.1 h1
    refine V_iconst X (v := (-1 : Int32)) dX8_end_15 (by decide) ?_
    exact V_iret X hr (Or.inl rfl) (Nat.le_of_ble_eq_true rfl) (Nat.le_of_ble_eq_true rfl) dX8_end_16 ⟨_, rfl, hP⟩
  · have hP := hP.2 h1
    refine V_iload_n X dX8_end_4 rfl 1 rfl ?_
    refine V_aload_n X dX8_end_5 rfl 0 rfl ?_
    obtain ⟨h2, hP⟩ := hP
    refine V_getr X kf_RX8_26 rfl h2 dX8_end_6 ?_
    obtain ⟨b1, h3, hP⟩ := hP
    refine V_dr0 h3 ?_
    obtain ⟨h4, hP⟩ := hP
    refine V_callV_i X [] kw_RX8_138 ki_X7_length ks_X7_length ksg_X7_length (m_X7_length l G N0 _ _ _ hP) h4 (by decide) rfl rfl ⟨Nat.le_of_ble_eq_true rfl, Nat.le_of_ble_eq_true rfl⟩ (Nat.le_of_ble_eq_true rfl) ⟨Nat.le_of_ble_eq_true rfl, Nat.le_of_ble_eq_true rfl⟩ rfl dX8_end_9 (fun r2 σ2 hP => ?_)
    refine V_icmp_le X (tgt := 17) dX8_end_12 (by decide) (fun h5 => ?_) (fun h5 => ?_)
    · have hP := hP.1 h5
      refine V_aload_n X dX8_end_17 rfl 0 rfl ?_
      obtain ⟨h6, hP⟩ := hP
      refine V_getr X kf_RX8_26 rfl h6 dX8_end_18 ?_
      refine V_iload_n X dX8_end_21 rfl 1 rfl ?_
      obtain ⟨b3, h7, hP⟩ := hP
      refine V_dr1 h7 ?_
      obtain ⟨h8, hP⟩ := hP
      refine V_callV_v X [.int x1] kw_RX8_145 ki_X7_cutTo ks_X7_cutTo ksg_X7_cutTo (m_X7_cutTo l G N0 _ _ _ _ hP) h8 (by decide) rfl rfl ⟨Nat.le_of_ble_eq_true rfl, Nat.le_of_ble_eq_true rfl⟩ (Nat.le_of_ble_eq_true rfl) ⟨Nat.le_of_ble_eq_true rfl, Nat.le_of_ble_eq_true rfl⟩ rfl dX8_end_22 (fun σ4 hP => ?_)
      refine V_iload_n X dX8_end_25 rfl 1 rfl ?_
      exact V_iret X hr (Or.inl rfl) (Nat.le_of_ble_eq_true rfl) (Nat.le_of_ble_eq_true rfl) dX8_end_26 ⟨_, rfl, hP⟩
    · have hP := hP.2 h5
      refine V_iconst X (v := (-1 : Int32)) dX8_end_15 (by decide) ?_
      exact V_iret X hr (Or.inl rfl) (Nat.le_of_ble_eq_true rfl) (Nat.le_of_ble_eq_true rfl) dX8_end_16 ⟨_, rfl, hP⟩
def P_X8_fault (a0 : Nat) (σ : Hp) (post : Int32 → Hp → Prop) : Prop :=
  gk σ a0 = some (8, 0) ∧ post (gi σ a0 7) σ
set_option maxHeartbeats 2000000 in
set_option maxRecDepth 100000 in
theorem m_X8_fault (l : Launch) (G : GG) (N0 : Nat) (a0 : Nat) (σ : Hp) (post : Int32 → Hp → Prop) (hP : P_X8_fault a0 σ post) : MM l G N0 yX8_fault cX8_fault 1 (some .int) (0) (0) 0 0 [.ref a0] σ (pI post) := by
  refine MM.of (by decide) (Nat.le_of_ble_eq_true rfl) ?_
  intro p e s m args below meth c X hr hnm
  refine V.to (lv2 := [(0, .ref a0)]) [0] rfl rfl ?_
  unfold P_X8_fault at hP
  refine V_aload_n X dX8_fault_0 rfl 0 rfl ?_
  obtain ⟨h1, hP⟩ := hP
  refine V_geti X kf_RX8_50 rfl h1 dX8_fault_1 ?_
  exact V_iret X hr (Or.inl rfl) (Nat.le_of_ble_eq_true rfl) (Nat.le_of_ble_eq_true rfl) dX8_fault_4 ⟨_, rfl, hP⟩
def P_X8_feed (a0 : Nat) (x1 : Int32) (x2 : Int32) (x3 : Int32) (x4 : Int32) (x5 : Int32) (σ : Hp) (post : Int32 → Hp → Prop) : Prop :=
  gk σ a0 = some (8, 0) ∧ ∃ b1 : Nat, (gr σ a0 2) = some b1 ∧ gk σ b1 = some (7, 0) ∧ P_X7_length b1 σ (fun (r2 : Int32) (σ2 : Hp) => ((r2 + (20 : Int32)) ≤ (200 : Int32) → gk σ2 a0 = some (8, 0) ∧ ∃ b3 : Nat, (gr σ2 a0 2) = some b3 ∧ gk σ2 b3 = some (7, 0) ∧ P_X7_addNumber b3 x1 σ2 (fun (σ4 : Hp) => gk σ4 a0 = some (8, 0) ∧ ∃ b5 : Nat, (gr σ4 a0 2) = some b5 ∧ gk σ4 b5 = some (7, 0) ∧ P_X7_addNumber b5 x2 σ4 (fun (σ6 : Hp) => gk σ6 a0 = some (8, 0) ∧ ∃ b7 : Nat, (gr σ6 a0 2) = some b7 ∧ gk σ6 b7 = some (7, 0) ∧ P_X7_addNumber b7 x3 σ6 (fun (σ8 : Hp) => gk σ8 a0 = some (8, 0) ∧ ∃ b9 : Nat, (gr σ8 a0 2) = some b9 ∧ gk σ8 b9 = some (7, 0) ∧ P_X7_addNumber b9 x4 σ8 (fun (σ10 : Hp) => gk σ10 a0 = some (8, 0) ∧ ∃ b11 : Nat, (gr σ10 a0 2) = some b11 ∧ gk σ10 b11 = some (7, 0) ∧ P_X7_addNumber b11 x5 σ10 (fun (σ12 : Hp) => gk σ12 a0 = some (8, 0) ∧ ∃ b13 : Nat, (gr σ12 a0 2) = some b13 ∧ gk σ12 b13 = some (7, 0) ∧ P_X7_length b13 σ12 (fun (r14 : Int32) (σ14 : Hp) => post r14 σ14))))))) ∧ (¬ ((r2 + (20 : Int32)) ≤ (200 : Int32)) → post (-1 : Int32) σ2))
set_option maxHeartbeats 2000000 in
set_option maxRecDepth 100000 in
theorem m_X8_feed (l : Launch) (G : GG) (N0 : Nat) (a0 : Nat) (x1 : Int32) (x2 : Int32) (x3 : Int32) (x4 : Int32) (x5 : Int32) (σ : Hp) (post : Int32 → Hp → Prop) (hP : P_X8_feed a0 x1 x2 x3 x4 x5 σ post) : MM l G N0 yX8_feed cX8_feed 6 (some .int) (2) (43) 0 0 [.ref a0, .int x1, .int x2, .int x3, .int x4, .int x5] σ (pI post) := by
  refine MM.of (by decide) (Nat.le_of_ble_eq_true rfl) ?_
  intro p e s m args below meth c X hr hnm
  refine V.to (lv2 := [(0, .ref a0), (1, .int x1), (2, .int x2), (3, .int x3), (4, .int x4), (5, .int x5)]) [0, 1, 2, 3, 4, 5] rfl rfl ?_
  unfold P_X8_feed at hP
  refine V_aload_n X dX8_feed_0 rfl 0 rfl ?_
  obtain ⟨h1, hP⟩ := hP
  refine V_getr X kf_RX8_26 rfl h1 dX8_feed_1 ?_
  obtain ⟨b1, h2, hP⟩ := hP
  refine V_dr0 h2 ?_
  obtain ⟨h3, hP⟩ := hP
  refine V_callV_i X [] kw_RX8_138 ki_X7_length ks_X7_length ksg_X7_length (m_X7_length l G N0 _ _ _ hP) h3 (by decide) rfl rfl ⟨Nat.le_of_ble_eq_true rfl, Nat.le_of_ble_eq_true rfl⟩ (Nat.le_of_ble_eq_true rfl) ⟨Nat.le_of_ble_eq_true rfl, Nat.le_of_ble_eq_true rfl⟩ rfl dX8_feed_4 (fun r2 σ2 hP => ?_)
  refine V_bipush X (v := (20 : Int32)) dX8_feed_7 (by decide) ?_
  refine V_iadd X dX8_feed_9 ?_
  refine V_sipush X (v := (200 : Int32)) dX8_feed_10 (by decide) ?_
  refine V_icmp_le X (tgt := 18) dX8_feed_13 (by decide) (fun h4 => ?_) (fun h4 => ?_)
  · have hP := hP.1 h4
    refine V_aload_n X dX8_feed_18 rfl 0 rfl ?_
    obtain ⟨h5, hP⟩ := hP
    refine V_getr X kf_RX8_26 rfl h5 dX8_feed_19 ?_
    refine V_iload_n X dX8_feed_22 rfl 1 rfl ?_
    obtain ⟨b3, h6, hP⟩ := hP
    refine V_dr1 h6 ?_
    obtain ⟨h7, hP⟩ := hP
    refine V_callV_v X [.int x1] kw_RX8_141 ki_X7_addNumber ks_X7_addNumber ksg_X7_addNumber (m_X7_addNumber l G N0 _ _ _ _ hP) h7 (by decide) rfl rfl ⟨Nat.le_of_ble_eq_true rfl, Nat.le_of_ble_eq_true rfl⟩ (Nat.le_of_ble_eq_true rfl) ⟨Nat.le_of_ble_eq_true rfl, Nat.le_of_ble_eq_true rfl⟩ rfl dX8_feed_23 (fun σ4 hP => ?_)
    refine V_aload_n X dX8_feed_26 rfl 0 rfl ?_
    obtain ⟨h8, hP⟩ := hP
    refine V_getr X kf_RX8_26 rfl h8 dX8_feed_27 ?_
    refine V_iload_n X dX8_feed_30 rfl 2 rfl ?_
    obtain ⟨b5, h9, hP⟩ := hP
    refine V_dr1 h9 ?_
    obtain ⟨h10, hP⟩ := hP
    refine V_callV_v X [.int x2] kw_RX8_141 ki_X7_addNumber ks_X7_addNumber ksg_X7_addNumber (m_X7_addNumber l G N0 _ _ _ _ hP) h10 (by decide) rfl rfl ⟨Nat.le_of_ble_eq_true rfl, Nat.le_of_ble_eq_true rfl⟩ (Nat.le_of_ble_eq_true rfl) ⟨Nat.le_of_ble_eq_true rfl, Nat.le_of_ble_eq_true rfl⟩ rfl dX8_feed_31 (fun σ6 hP => ?_)
    refine V_aload_n X dX8_feed_34 rfl 0 rfl ?_
    obtain ⟨h11, hP⟩ := hP
    refine V_getr X kf_RX8_26 rfl h11 dX8_feed_35 ?_
    refine V_iload_n X dX8_feed_38 rfl 3 rfl ?_
    obtain ⟨b7, h12, hP⟩ := hP
    refine V_dr1 h12 ?_
    obtain ⟨h13, hP⟩ := hP
    refine V_callV_v X [.int x3] kw_RX8_141 ki_X7_addNumber ks_X7_addNumber ksg_X7_addNumber (m_X7_addNumber l G N0 _ _ _ _ hP) h13 (by decide) rfl rfl ⟨Nat.le_of_ble_eq_true rfl, Nat.le_of_ble_eq_true rfl⟩ (Nat.le_of_ble_eq_true rfl) ⟨Nat.le_of_ble_eq_true rfl, Nat.le_of_ble_eq_true rfl⟩ rfl dX8_feed_39 (fun σ8 hP => ?_)
    refine V_aload_n X dX8_feed_42 rfl 0 rfl ?_
    obtain ⟨h14, hP⟩ := hP
    refine V_getr X kf_RX8_26 rfl h14 dX8_feed_43 ?_
    refine V_iload X dX8_feed_46 4 rfl ?_
    obtain ⟨b9, h15, hP⟩ := hP
    refine V_dr1 h15 ?_
    obtain ⟨h16, hP⟩ := hP
    refine V_callV_v X [.int x4] kw_RX8_141 ki_X7_addNumber ks_X7_addNumber ksg_X7_addNumber (m_X7_addNumber l G N0 _ _ _ _ hP) h16 (by decide) rfl rfl ⟨Nat.le_of_ble_eq_true rfl, Nat.le_of_ble_eq_true rfl⟩ (Nat.le_of_ble_eq_true rfl) ⟨Nat.le_of_ble_eq_true rfl, Nat.le_of_ble_eq_true rfl⟩ rfl dX8_feed_48 (fun σ10 hP => ?_)
    refine V_aload_n X dX8_feed_51 rfl 0 rfl ?_
    obtain ⟨h17, hP⟩ := hP
    refine V_getr X kf_RX8_26 rfl h17 dX8_feed_52 ?_
    refine V_iload X dX8_feed_55 5 rfl ?_
    obtain ⟨b11, h18, hP⟩ := hP
    refine V_dr1 h18 ?_
    obtain ⟨h19, hP⟩ := hP
    refine V_callV_v X [.int x5] kw_RX8_141 ki_X7_addNumber ks_X7_addNumber ksg_X7_addNumber (m_X7_addNumber l G N0 _ _ _ _ hP) h19 (by decide) rfl rfl ⟨Nat.le_of_ble_eq_true rfl, Nat.le_of_ble_eq_true rfl⟩ (Nat.le_of_ble_eq_true rfl) ⟨Nat.le_of_ble_eq_true rfl, Nat.le_of_ble_eq_true rfl⟩ rfl dX8_feed_57 (fun σ12 hP => ?_)
    refine V_aload_n X dX8_feed_60 rfl 0 rfl ?_
    obtain ⟨h20, hP⟩ := hP
    refine V_getr X kf_RX8_26 rfl h20 dX8_feed_61 ?_
    obtain ⟨b13, h21, hP⟩ := hP
    refine V_dr0 h21 ?_
    obtain ⟨h22, hP⟩ := hP
    refine V_callV_i X [] kw_RX8_138 ki_X7_length ks_X7_length ksg_X7_length (m_X7_length l G N0 _ _ _ hP) h22 (by decide) rfl rfl ⟨Nat.le_of_ble_eq_true rfl, Nat.le_of_ble_eq_true rfl⟩ (Nat.le_of_ble_eq_true rfl) ⟨Nat.le_of_ble_eq_true rfl, Nat.le_of_ble_eq_true rfl⟩ rfl dX8_feed_64 (fun r14 σ14 hP => ?_)
    exact V_iret X hr (Or.inl rfl) (Nat.le_of_ble_eq_true rfl) (Nat.le_of_ble_eq_true rfl) dX8_feed_67 ⟨_, rfl, hP⟩
  · have hP := hP.2 h4
    refine V_iconst X (v := (-1 : Int32)) dX8_feed_16 (by decide) ?_
    exact V_iret X hr (Or.inl rfl) (Nat.le_of_ble_eq_true rfl) (Nat.le_of_ble_eq_true rfl) dX8_feed_17 ⟨_, rfl, hP⟩
def P_X8_go (a0 : Nat) (x1 : Int32) (σ : Hp) (post : Int32 → Hp → Prop) : Prop :=
  gk σ a0 = some (8, 0) ∧ ∃ b1 : Nat, (gr σ a0 0) = some b1 ∧ gk σ b1 = some (5, 0) ∧ P_X5_standing b1 x1 σ (fun (r2 : Option Nat) (σ2 : Hp) => (r2 = none → gk σ2 a0 = some (8, 0) ∧ P_X8_refused a0 (-2 : Int32) σ2 (fun (r4 : Int32) (σ4 : Hp) => post r4 σ4)) ∧ (∀ b3 : Nat, r2 = some b3 → gk σ2 a0 = some (8, 0) ∧ ∃ b5 : Nat, (gr σ2 a0 1) = some b5 ∧ gk σ2 b5 = some (0, 0) ∧ P_X0_isFull b5 σ2 (fun (r6 : Int32) (σ6 : Hp) => (r6 = 0 → gk σ6 b3 = some (4, 0) ∧ P_X4_gone b3 σ6 (fun (r7 : Option Nat) (σ7 : Hp) => ∃ b8 : Nat, r7 = some b8 ∧ gk σ7 a0 = some (8, 0) ∧ P_X8_tell a0 b8 σ7 (fun (σ9 : Hp) => gk σ9 a0 = some (8, 0) ∧ P_X8_answered a0 (0 : Int32) σ9 (fun (r10 : Int32) (σ10 : Hp) => post r10 σ10)))) ∧ (¬ (r6 = 0) → gk σ6 a0 = some (8, 0) ∧ P_X8_refused a0 (-5 : Int32) σ6 (fun (r11 : Int32) (σ11 : Hp) => post r11 σ11)))))
set_option maxHeartbeats 2000000 in
set_option maxRecDepth 100000 in
theorem m_X8_go (l : Launch) (G : GG) (N0 : Nat) (a0 : Nat) (x1 : Int32) (σ : Hp) (post : Int32 → Hp → Prop) (hP : P_X8_go a0 x1 σ post) : MM l G N0 yX8_go cX8_go 3 (some .int) (3) (68) 1 6 [.ref a0, .int x1] σ (pI post) := by
  refine MM.of (by decide) (Nat.le_of_ble_eq_true rfl) ?_
  intro p e s m args below meth c X hr hnm
  refine V.to (lv2 := [(0, .ref a0), (1, .int x1)]) [0, 1] rfl rfl ?_
  unfold P_X8_go at hP
  refine V_aload_n X dX8_go_0 rfl 0 rfl ?_
  obtain ⟨h1, hP⟩ := hP
  refine V_getr X kf_RX8_12 rfl h1 dX8_go_1 ?_
  refine V_iload_n X dX8_go_4 rfl 1 rfl ?_
  obtain ⟨b1, h2, hP⟩ := hP
  refine V_dr1 h2 ?_
  obtain ⟨h3, hP⟩ := hP
  refine V_callV_r X [.int x1] kw_RX8_104 ki_X5_standing ks_X5_standing ksg_X5_standing (m_X5_standing l G N0 _ _ _ _ hP) h3 (by decide) rfl rfl ⟨Nat.le_of_ble_eq_true rfl, Nat.le_of_ble_eq_true rfl⟩ (Nat.le_of_ble_eq_true rfl) ⟨Nat.le_of_ble_eq_true rfl, Nat.le_of_ble_eq_true rfl⟩ rfl dX8_go_5 (fun r2 σ2 hP => ?_)
  refine V_astore_nr X (x := r2) (lv' := [(2, va_rf r2), (0, .ref a0), (1, .int x1)]) dX8_go_8 rfl (by decide) rfl ?_
  refine V_aload_nr X dX8_go_9 rfl 0 rfl ?_
  refine V_ifnonnull X (tgt := 20) dX8_go_10 (by decide) (fun b3 h4 => ?_) (fun h4 => ?_)
  · have hP := hP.2 b3 h4
    refine V_aload_n X dX8_go_20 rfl 1 rfl ?_
    obtain ⟨h6, hP⟩ := hP
    refine V_getr X kf_RX8_19 rfl h6 dX8_go_21 ?_
    obtain ⟨b5, h7, hP⟩ := hP
    refine V_dr0 h7 ?_
    obtain ⟨h8, hP⟩ := hP
    refine V_callV_i X [] kw_RX8_87 ki_X0_isFull ks_X0_isFull ksg_X0_isFull (m_X0_isFull l G N0 _ _ _ hP) h8 (by decide) rfl rfl ⟨Nat.le_of_ble_eq_true rfl, Nat.le_of_ble_eq_true rfl⟩ (Nat.le_of_ble_eq_true rfl) ⟨Nat.le_of_ble_eq_true rfl, Nat.le_of_ble_eq_true rfl⟩ rfl dX8_go_24 (fun r6 σ6 hP => ?_)
    refine V_if_eq X (tgt := 37) dX8_go_27 (by decide) (fun h9 => ?_) (fun h9 => ?_)
    · have hP := hP.1 h9
      refine V_aload_n X dX8_go_37 rfl 1 rfl ?_
      refine V_aload_nr X dX8_go_38 rfl 0 rfl ?_
      refine V_dr0 h4 ?_
      obtain ⟨h10, hP⟩ := hP
      refine V_callV_r X [] kw_RX8_118 ki_X4_gone ks_X4_gone ksg_X4_gone (m_X4_gone l G N0 _ _ _ hP) h10 (by decide) rfl rfl ⟨Nat.le_of_ble_eq_true rfl, Nat.le_of_ble_eq_true rfl⟩ (Nat.le_of_ble_eq_true rfl) ⟨Nat.le_of_ble_eq_true rfl, Nat.le_of_ble_eq_true rfl⟩ rfl dX8_go_39 (fun r7 σ7 hP => ?_)
      obtain ⟨b8, h11, hP⟩ := hP
      refine V_dr0 h11 ?_
      obtain ⟨h12, hP⟩ := hP
      refine V_callV_v X [.ref b8] kw_RX8_97 ki_X8_tell ks_X8_tell ksg_X8_tell (m_X8_tell l G N0 _ _ _ _ hP) h12 (by decide) rfl rfl ⟨Nat.le_of_ble_eq_true rfl, Nat.le_of_ble_eq_true rfl⟩ (Nat.le_of_ble_eq_true rfl) ⟨Nat.le_of_ble_eq_true rfl, Nat.le_of_ble_eq_true rfl⟩ rfl dX8_go_42 (fun σ9 hP => ?_)
      refine V_aload_n X dX8_go_45 rfl 1 rfl ?_
      refine V_iconst X (v := (0 : Int32)) dX8_go_46 (by decide) ?_
      obtain ⟨h13, hP⟩ := hP
      refine V_callV_i X [.int (0 : Int32)] kw_RX8_101 ki_X8_answered ks_X8_answered ksg_X8_answered (m_X8_answered l G N0 _ _ _ _ hP) h13 (by decide) rfl rfl ⟨Nat.le_of_ble_eq_true rfl, Nat.le_of_ble_eq_true rfl⟩ (Nat.le_of_ble_eq_true rfl) ⟨Nat.le_of_ble_eq_true rfl, Nat.le_of_ble_eq_true rfl⟩ rfl dX8_go_47 (fun r10 σ10 hP => ?_)
      exact V_iret X hr (Or.inl rfl) (Nat.le_of_ble_eq_true rfl) (Nat.le_of_ble_eq_true rfl) dX8_go_50 ⟨_, rfl, hP⟩
    · have hP := hP.2 h9
      refine V_aload_n X dX8_go_30 rfl 1 rfl ?_
      refine V_bipush X (v := (-5 : Int32)) dX8_go_31 (by decide) ?_
      obtain ⟨h14, hP⟩ := hP
      refine V_callV_i X [.int (-5 : Int32)] kw_RX8_76 ki_X8_refused ks_X8_refused ksg_X8_refused (m_X8_refused l G N0 _ _ _ _ hP) h14 (by decide) rfl rfl ⟨Nat.le_of_ble_eq_true rfl, Nat.le_of_ble_eq_true rfl⟩ (Nat.le_of_ble_eq_true rfl) ⟨Nat.le_of_ble_eq_true rfl, Nat.le_of_ble_eq_true rfl⟩ rfl dX8_go_33 (fun r11 σ11 hP => ?_)
      exact V_iret X hr (Or.inl rfl) (Nat.le_of_ble_eq_true rfl) (Nat.le_of_ble_eq_true rfl) dX8_go_36 ⟨_, rfl, hP⟩
  · have hP := hP.1 h4
    refine V_aload_n X dX8_go_13 rfl 1 rfl ?_
    refine V_bipush X (v := (-2 : Int32)) dX8_go_14 (by decide) ?_
    obtain ⟨h5, hP⟩ := hP
    refine V_callV_i X [.int (-2 : Int32)] kw_RX8_76 ki_X8_refused ks_X8_refused ksg_X8_refused (m_X8_refused l G N0 _ _ _ _ hP) h5 (by decide) rfl rfl ⟨Nat.le_of_ble_eq_true rfl, Nat.le_of_ble_eq_true rfl⟩ (Nat.le_of_ble_eq_true rfl) ⟨Nat.le_of_ble_eq_true rfl, Nat.le_of_ble_eq_true rfl⟩ rfl dX8_go_16 (fun r4 σ4 hP => ?_)
    exact V_iret X hr (Or.inl rfl) (Nat.le_of_ble_eq_true rfl) (Nat.le_of_ble_eq_true rfl) dX8_go_19 ⟨_, rfl, hP⟩
def P_X8_holds (a0 : Nat) (x1 : Int32) (x2 : Int32) (σ : Hp) (post : Int32 → Hp → Prop) : Prop :=
  gk σ a0 = some (8, 0) ∧ P_X8_readerAt a0 x1 σ (fun (r1 : Option Nat) (σ1 : Hp) => (r1 = none → post (-5000 : Int32) σ1) ∧ (∀ b2 : Nat, r1 = some b2 → (¬ x2 = (-1 : Int32) → gk σ1 b2 = some (3, 0) ∧ ∃ b3 : Nat, (gr σ1 b2 1) = some b3 ∧ gk σ1 b3 = some (1, 0) ∧ P_X1_at b3 x2 σ1 (fun (r4 : Int32) (σ4 : Hp) => post r4 σ4)) ∧ (x2 = (-1 : Int32) → gk σ1 b2 = some (3, 0) ∧ ∃ b5 : Nat, (gr σ1 b2 1) = some b5 ∧ gk σ1 b5 = some (1, 0) ∧ P_X1_length b5 σ1 (fun (r6 : Int32) (σ6 : Hp) => post r6 σ6))))
set_option maxHeartbeats 2000000 in
set_option maxRecDepth 100000 in
theorem m_X8_holds (l : Launch) (G : GG) (N0 : Nat) (a0 : Nat) (x1 : Int32) (x2 : Int32) (σ : Hp) (post : Int32 → Hp → Prop) (hP : P_X8_holds a0 x1 x2 σ post) : MM l G N0 yX8_holds cX8_holds 4 (some .int) (1) (21) 0 0 [.ref a0, .int x1, .int x2] σ (pI post) := by
  refine MM.of (by decide) (Nat.le_of_ble_eq_true rfl) ?_
  intro p e s m args below meth c X hr hnm
  refine V.to (lv2 := [(0, .ref a0), (1, .int x1), (2, .int x2)]) [0, 1, 2] rfl rfl ?_
  unfold P_X8_holds at hP
  refine V_aload_n X dX8_holds_0 rfl 0 rfl ?_
  refine V_iload_n X dX8_holds_1 rfl 1 rfl ?_
  obtain ⟨h1, hP⟩ := hP
  refine V_callV_r X [.int x1] kw_RX8_197 ki_X8_readerAt ks_X8_readerAt ksg_X8_readerAt (m_X8_readerAt l G N0 _ _ _ _ hP) h1 (by decide) rfl rfl ⟨Nat.le_of_ble_eq_true rfl, Nat.le_of_ble_eq_true rfl⟩ (Nat.le_of_ble_eq_true rfl) ⟨Nat.le_of_ble_eq_true rfl, Nat.le_of_ble_eq_true rfl⟩ rfl dX8_holds_2 (fun r1 σ1 hP => ?_)
  refine V_astore_nr X (x := r1) (lv' := [(3, va_rf r1), (0, .ref a0), (1, .int x1), (2, .int x2)]) dX8_holds_5 rfl (by decide) rfl ?_
  refine V_aload_nr X dX8_holds_6 rfl 0 rfl ?_
  refine V_ifnonnull X (tgt := 14) dX8_holds_7 (by decide) (fun b2 h2 => ?_) (fun h2 => ?_)
  · have hP := hP.2 b2 h2
    refine V_iload_n X dX8_holds_14 rfl 3 rfl ?_
    refine V_iconst X (v := (-1 : Int32)) dX8_holds_15 (by decide) ?_
    refine V_icmp_ne X (tgt := 29) dX8_holds_16 (by decide) (fun h3 => ?_) (fun h3 => ?_)
    · have hP := hP.1 h3
      refine V_aload_nr X dX8_holds_29 rfl 0 rfl ?_
      refine V_dr0 h2 ?_
      obtain ⟨h4, hP⟩ := hP
      refine V_getr X kf_RX8_186 rfl h4 dX8_holds_30 ?_
      refine V_iload_n X dX8_holds_33 rfl 3 rfl ?_
      obtain ⟨b3, h5, hP⟩ := hP
      refine V_dr1 h5 ?_
      obtain ⟨h6, hP⟩ := hP
      refine V_callV_i X [.int x2] kw_RX8_170 ki_X1_at ks_X1_at ksg_X1_at (m_X1_at l G N0 _ _ _ _ hP) h6 (by decide) rfl rfl ⟨Nat.le_of_ble_eq_true rfl, Nat.le_of_ble_eq_true rfl⟩ (Nat.le_of_ble_eq_true rfl) ⟨Nat.le_of_ble_eq_true rfl, Nat.le_of_ble_eq_true rfl⟩ rfl dX8_holds_34 (fun r4 σ4 hP => ?_)
      exact V_iret X hr (Or.inl rfl) (Nat.le_of_ble_eq_true rfl) (Nat.le_of_ble_eq_true rfl) dX8_holds_37 ⟨_, rfl, hP⟩
    · have hP := hP.2 h3
      refine V_aload_nr X dX8_holds_19 rfl 0 rfl ?_
      refine V_dr0 h2 ?_
      obtain ⟨h7, hP⟩ := hP
      refine V_getr X kf_RX8_186 rfl h7 dX8_holds_20 ?_
      obtain ⟨b5, h8, hP⟩ := hP
      refine V_dr0 h8 ?_
      obtain ⟨h9, hP⟩ := hP
      refine V_callV_i X [] kw_RX8_169 ki_X1_length ks_X1_length ksg_X1_length (m_X1_length l G N0 _ _ _ hP) h9 (by decide) rfl rfl ⟨Nat.le_of_ble_eq_true rfl, Nat.le_of_ble_eq_true rfl⟩ (Nat.le_of_ble_eq_true rfl) ⟨Nat.le_of_ble_eq_true rfl, Nat.le_of_ble_eq_true rfl⟩ rfl dX8_holds_23 (fun r6 σ6 hP => ?_)
      refine V_goto X (tgt := 37) dX8_holds_26 (by decide) ?_
      exact V_iret X hr (Or.inl rfl) (Nat.le_of_ble_eq_true rfl) (Nat.le_of_ble_eq_true rfl) dX8_holds_37 ⟨_, rfl, hP⟩
  · have hP := hP.1 h2
    refine V_sipush X (v := (-5000 : Int32)) dX8_holds_10 (by decide) ?_
    exact V_iret X hr (Or.inl rfl) (Nat.le_of_ble_eq_true rfl) (Nat.le_of_ble_eq_true rfl) dX8_holds_13 ⟨_, rfl, hP⟩
def P_X8_init (a0 : Nat) (σ : Hp) (post : Hp → Prop) : Prop :=
  ∀ q1 : Nat, gk σ q1 = none → P_X5_init q1 (nw σ q1 5 0) (fun (σ2 : Hp) => gk σ2 a0 = some (8, 0) ∧ ∀ q3 : Nat, gk (sr σ2 a0 0 (some q1)) q3 = none → P_X0_init q3 (nw (sr σ2 a0 0 (some q1)) q3 0 0) (fun (σ4 : Hp) => gk σ4 a0 = some (8, 0) ∧ ∀ q5 : Nat, gk (sr σ4 a0 1 (some q3)) q5 = none → P_X7_init q5 (nw (sr σ4 a0 1 (some q3)) q5 7 0) (fun (σ6 : Hp) => gk σ6 a0 = some (8, 0) ∧ ∀ q7 : Nat, gk (sr σ6 a0 2 (some q5)) q7 = none → ∀ q8 : Nat, gk (sr (nw (sr σ6 a0 2 (some q5)) q7 12 10) a0 3 (some q7)) q8 = none → P_X6_init q8 (nw (sr (nw (sr σ6 a0 2 (some q5)) q7 12 10) a0 3 (some q7)) q8 6 0) (fun (σ9 : Hp) => gk σ9 a0 = some (8, 0) ∧ ∀ q10 : Nat, gk (si (si (si (si (sr σ9 a0 4 (some q8)) a0 5 (0 : Int32)) a0 6 (0 : Int32)) a0 7 (-1 : Int32)) a0 8 (0 : Int32)) q10 = none → P_X6_init q10 (nw (si (si (si (si (sr σ9 a0 4 (some q8)) a0 5 (0 : Int32)) a0 6 (0 : Int32)) a0 7 (-1 : Int32)) a0 8 (0 : Int32)) q10 6 0) (fun (σ11 : Hp) => gk σ11 a0 = some (8, 0) ∧ ∀ q12 : Nat, gk (sr σ11 a0 9 (some q10)) q12 = none → P_X5_init q12 (nw (sr σ11 a0 9 (some q10)) q12 5 0) (fun (σ13 : Hp) => gk σ13 a0 = some (8, 0) ∧ ∀ q14 : Nat, gk (sr σ13 a0 10 (some q12)) q14 = none → P_X1_init q14 (nw (sr σ13 a0 10 (some q12)) q14 1 0) (fun (σ15 : Hp) => gk σ15 a0 = some (8, 0) ∧ ∀ q16 : Nat, gk (sr σ15 a0 11 (some q14)) q16 = none → P_X1_init q16 (nw (sr σ15 a0 11 (some q14)) q16 1 0) (fun (σ17 : Hp) => gk σ17 a0 = some (8, 0) ∧ post (sr σ17 a0 12 (some q16))))))))))
set_option maxHeartbeats 2000000 in
set_option maxRecDepth 100000 in
theorem m_X8_init (l : Launch) (G : GG) (N0 : Nat) (a0 : Nat) (σ : Hp) (post : Hp → Prop) (hP : P_X8_init a0 σ post) : MM l G N0 yX8_init cX8_init 1 none (2) (40) 25 2698 [.ref a0] σ (pV post) := by
  refine MM.of (by decide) (Nat.le_of_ble_eq_true rfl) ?_
  intro p e s m args below meth c X hr hnm
  refine V.to (lv2 := [(0, .ref a0)]) [0] rfl rfl ?_
  unfold P_X8_init at hP
  refine V_aload_n X dX8_init_0 rfl 0 rfl ?_
  refine V_objInit X kl_RX8_3 ko_inst ko_code (Nat.le_of_ble_eq_true rfl) ⟨Nat.le_of_ble_eq_true rfl, Nat.le_of_ble_eq_true rfl⟩ dX8_init_1 ?_
  refine V_aload_n X dX8_init_4 rfl 0 rfl ?_
  refine V_new X (t := 5) kp_RX8_9 (by decide) (by decide) dX8_init_5 (fun q1 h1 => ?_)
  have hP := hP q1 h1
  have h2 : gk (nw σ q1 5 0) q1 = _ := gk_new
  refine V_dup X dX8_init_8 rfl ?_
  refine V_callIN_v X [] kw_RX8_11 ki_X5_init rfl (m_X5_init l G N0 _ _ _ hP) rfl ⟨Nat.le_of_ble_eq_true rfl, Nat.le_of_ble_eq_true rfl⟩ (Nat.le_of_ble_eq_true rfl) ⟨Nat.le_of_ble_eq_true rfl, Nat.le_of_ble_eq_true rfl⟩ rfl dX8_init_9 (fun σ2 hP => ?_)
  obtain ⟨h3, hP⟩ := hP
  refine V_putr X (v := (some q1)) kf_RX8_12 (fun _ => ⟨hnm, rfl⟩) rfl h3 (Or.inl ⟨_, rfl⟩) dX8_init_12 ?_
  refine V_aload_n X dX8_init_15 rfl 0 rfl ?_
  refine V_new X (t := 0) kp_RX8_16 (by decide) (by decide) dX8_init_16 (fun q3 h4 => ?_)
  have hP := hP q3 h4
  have h5 := gk_keep (t := 0) (n := 0) h4 (show gk (sr σ2 a0 0 (some q1)) a0 = _ from h3)
  have h6 : gk (nw (sr σ2 a0 0 (some q1)) q3 0 0) q3 = _ := gk_new
  refine V_dup X dX8_init_19 rfl ?_
  refine V_callIN_v X [] kw_RX8_18 ki_X0_init rfl (m_X0_init l G N0 _ _ _ hP) rfl ⟨Nat.le_of_ble_eq_true rfl, Nat.le_of_ble_eq_true rfl⟩ (Nat.le_of_ble_eq_true rfl) ⟨Nat.le_of_ble_eq_true rfl, Nat.le_of_ble_eq_true rfl⟩ rfl dX8_init_20 (fun σ4 hP => ?_)
  obtain ⟨h7, hP⟩ := hP
  refine V_putr X (v := (some q3)) kf_RX8_19 (fun _ => ⟨hnm, rfl⟩) rfl h7 (Or.inl ⟨_, rfl⟩) dX8_init_23 ?_
  refine V_aload_n X dX8_init_26 rfl 0 rfl ?_
  refine V_new X (t := 7) kp_RX8_23 (by decide) (by decide) dX8_init_27 (fun q5 h8 => ?_)
  have hP := hP q5 h8
  have h9 := gk_keep (t := 7) (n := 0) h8 (show gk (sr σ4 a0 1 (some q3)) a0 = _ from h7)
  have h10 : gk (nw (sr σ4 a0 1 (some q3)) q5 7 0) q5 = _ := gk_new
  refine V_dup X dX8_init_30 rfl ?_
  refine V_callIN_v X [] kw_RX8_25 ki_X7_init rfl (m_X7_init l G N0 _ _ _ hP) rfl ⟨Nat.le_of_ble_eq_true rfl, Nat.le_of_ble_eq_true rfl⟩ (Nat.le_of_ble_eq_true rfl) ⟨Nat.le_of_ble_eq_true rfl, Nat.le_of_ble_eq_true rfl⟩ rfl dX8_init_31 (fun σ6 hP => ?_)
  obtain ⟨h11, hP⟩ := hP
  refine V_putr X (v := (some q5)) kf_RX8_26 (fun _ => ⟨hnm, rfl⟩) rfl h11 (Or.inl ⟨_, rfl⟩) dX8_init_34 ?_
  refine V_aload_n X dX8_init_37 rfl 0 rfl ?_
  refine V_bipush X (v := (10 : Int32)) dX8_init_38 (by decide) ?_
  refine V_newq X (N := 10) (t := 12) (Or.inl ⟨rfl, rfl⟩) kq_RX8_30 (by decide) (by decide) (by decide) (Nat.le_of_ble_eq_true rfl) (Nat.le_of_ble_eq_true rfl) dX8_init_40 (fun q7 h12 => ?_)
  have hP := hP q7 h12
  have h13 := gk_keep (t := 12) (n := 10) h12 (show gk (sr σ6 a0 2 (some q5)) a0 = _ from h11)
  have h14 : gk (nw (sr σ6 a0 2 (some q5)) q7 12 10) q7 = _ := gk_new
  refine V_putr X (v := (some q7)) kf_RX8_32 (fun _ => ⟨hnm, rfl⟩) rfl h13 (Or.inr ⟨_, rfl⟩) dX8_init_43 ?_
  refine V_aload_n X dX8_init_46 rfl 0 rfl ?_
  refine V_new X (t := 6) kp_RX8_36 (by decide) (by decide) dX8_init_47 (fun q8 h15 => ?_)
  have hP := hP q8 h15
  have h16 := gk_keep (t := 6) (n := 0) h15 (show gk (sr (nw (sr σ6 a0 2 (some q5)) q7 12 10) a0 3 (some q7)) a0 = _ from h13)
  have h17 := gk_keep (t := 6) (n := 0) h15 (show gk (sr (nw (sr σ6 a0 2 (some q5)) q7 12 10) a0 3 (some q7)) q7 = _ from h14)
  have h18 : gk (nw (sr (nw (sr σ6 a0 2 (some q5)) q7 12 10) a0 3 (some q7)) q8 6 0) q8 = _ := gk_new
  refine V_dup X dX8_init_50 rfl ?_
  refine V_callIN_v X [] kw_RX8_38 ki_X6_init rfl (m_X6_init l G N0 _ _ _ hP) rfl ⟨Nat.le_of_ble_eq_true rfl, Nat.le_of_ble_eq_true rfl⟩ (Nat.le_of_ble_eq_true rfl) ⟨Nat.le_of_ble_eq_true rfl, Nat.le_of_ble_eq_true rfl⟩ rfl dX8_init_51 (fun σ9 hP => ?_)
  obtain ⟨h19, hP⟩ := hP
  refine V_putr X (v := (some q8)) kf_RX8_39 (fun h => by cases h) rfl h19 (Or.inl ⟨_, rfl⟩) dX8_init_54 ?_
  refine V_aload_n X dX8_init_57 rfl 0 rfl ?_
  refine V_iconst X (v := (0 : Int32)) dX8_init_58 (by decide) ?_
  refine V_puti X kf_RX8_43 (fun h => by cases h) rfl h19 (Or.inl rfl) dX8_init_59 ?_
  refine V_aload_n X dX8_init_62 rfl 0 rfl ?_
  refine V_iconst X (v := (0 : Int32)) dX8_init_63 (by decide) ?_
  refine V_puti X kf_RX8_47 (fun h => by cases h) rfl h19 (Or.inl rfl) dX8_init_64 ?_
  refine V_aload_n X dX8_init_67 rfl 0 rfl ?_
  refine V_iconst X (v := (-1 : Int32)) dX8_init_68 (by decide) ?_
  refine V_puti X kf_RX8_50 (fun h => by cases h) rfl h19 (Or.inl rfl) dX8_init_69 ?_
  refine V_aload_n X dX8_init_72 rfl 0 rfl ?_
  refine V_iconst X (v := (0 : Int32)) dX8_init_73 (by decide) ?_
  refine V_puti X kf_RX8_53 (fun h => by cases h) rfl h19 (Or.inl rfl) dX8_init_74 ?_
  refine V_aload_n X dX8_init_77 rfl 0 rfl ?_
  refine V_new X (t := 6) kp_RX8_36 (by decide) (by decide) dX8_init_78 (fun q10 h20 => ?_)
  have hP := hP q10 h20
  have h21 := gk_keep (t := 6) (n := 0) h20 (show gk (si (si (si (si (sr σ9 a0 4 (some q8)) a0 5 (0 : Int32)) a0 6 (0 : Int32)) a0 7 (-1 : Int32)) a0 8 (0 : Int32)) a0 = _ from h19)
  have h22 : gk (nw (si (si (si (si (sr σ9 a0 4 (some q8)) a0 5 (0 : Int32)) a0 6 (0 : Int32)) a0 7 (-1 : Int32)) a0 8 (0 : Int32)) q10 6 0) q10 = _ := gk_new
  refine V_dup X dX8_init_81 rfl ?_
  refine V_callIN_v X [] kw_RX8_38 ki_X6_init rfl (m_X6_init l G N0 _ _ _ hP) rfl ⟨Nat.le_of_ble_eq_true rfl, Nat.le_of_ble_eq_true rfl⟩ (Nat.le_of_ble_eq_true rfl) ⟨Nat.le_of_ble_eq_true rfl, Nat.le_of_ble_eq_true rfl⟩ rfl dX8_init_82 (fun σ11 hP => ?_)
  obtain ⟨h23, hP⟩ := hP
  refine V_putr X (v := (some q10)) kf_RX8_56 (fun h => by cases h) rfl h23 (Or.inl ⟨_, rfl⟩) dX8_init_85 ?_
  refine V_aload_n X dX8_init_88 rfl 0 rfl ?_
  refine V_new X (t := 5) kp_RX8_9 (by decide) (by decide) dX8_init_89 (fun q12 h24 => ?_)
  have hP := hP q12 h24
  have h25 := gk_keep (t := 5) (n := 0) h24 (show gk (sr σ11 a0 9 (some q10)) a0 = _ from h23)
  have h26 : gk (nw (sr σ11 a0 9 (some q10)) q12 5 0) q12 = _ := gk_new
  refine V_dup X dX8_init_92 rfl ?_
  refine V_callIN_v X [] kw_RX8_11 ki_X5_init rfl (m_X5_init l G N0 _ _ _ hP) rfl ⟨Nat.le_of_ble_eq_true rfl, Nat.le_of_ble_eq_true rfl⟩ (Nat.le_of_ble_eq_true rfl) ⟨Nat.le_of_ble_eq_true rfl, Nat.le_of_ble_eq_true rfl⟩ rfl dX8_init_93 (fun σ13 hP => ?_)
  obtain ⟨h27, hP⟩ := hP
  refine V_putr X (v := (some q12)) kf_RX8_59 (fun _ => ⟨hnm, rfl⟩) rfl h27 (Or.inl ⟨_, rfl⟩) dX8_init_96 ?_
  refine V_aload_n X dX8_init_99 rfl 0 rfl ?_
  refine V_new X (t := 1) kp_RX8_62 (by decide) (by decide) dX8_init_100 (fun q14 h28 => ?_)
  have hP := hP q14 h28
  have h29 := gk_keep (t := 1) (n := 0) h28 (show gk (sr σ13 a0 10 (some q12)) a0 = _ from h27)
  have h30 : gk (nw (sr σ13 a0 10 (some q12)) q14 1 0) q14 = _ := gk_new
  refine V_dup X dX8_init_103 rfl ?_
  refine V_callIN_v X [] kw_RX8_64 ki_X1_init rfl (m_X1_init l G N0 _ _ _ hP) rfl ⟨Nat.le_of_ble_eq_true rfl, Nat.le_of_ble_eq_true rfl⟩ (Nat.le_of_ble_eq_true rfl) ⟨Nat.le_of_ble_eq_true rfl, Nat.le_of_ble_eq_true rfl⟩ rfl dX8_init_104 (fun σ15 hP => ?_)
  obtain ⟨h31, hP⟩ := hP
  refine V_putr X (v := (some q14)) kf_RX8_65 (fun _ => ⟨hnm, rfl⟩) rfl h31 (Or.inl ⟨_, rfl⟩) dX8_init_107 ?_
  refine V_aload_n X dX8_init_110 rfl 0 rfl ?_
  refine V_new X (t := 1) kp_RX8_62 (by decide) (by decide) dX8_init_111 (fun q16 h32 => ?_)
  have hP := hP q16 h32
  have h33 := gk_keep (t := 1) (n := 0) h32 (show gk (sr σ15 a0 11 (some q14)) a0 = _ from h31)
  have h34 : gk (nw (sr σ15 a0 11 (some q14)) q16 1 0) q16 = _ := gk_new
  refine V_dup X dX8_init_114 rfl ?_
  refine V_callIN_v X [] kw_RX8_64 ki_X1_init rfl (m_X1_init l G N0 _ _ _ hP) rfl ⟨Nat.le_of_ble_eq_true rfl, Nat.le_of_ble_eq_true rfl⟩ (Nat.le_of_ble_eq_true rfl) ⟨Nat.le_of_ble_eq_true rfl, Nat.le_of_ble_eq_true rfl⟩ rfl dX8_init_115 (fun σ17 hP => ?_)
  obtain ⟨h35, hP⟩ := hP
  refine V_putr X (v := (some q16)) kf_RX8_69 (fun _ => ⟨hnm, rfl⟩) rfl h35 (Or.inl ⟨_, rfl⟩) dX8_init_118 ?_
  exact V_vret X hr (Nat.le_of_ble_eq_true rfl) (Nat.le_of_ble_eq_true rfl) dX8_init_121 ⟨rfl, hP⟩
def P_X8_isOtherwiseThen (a0 : Nat) (x1 : Int32) (σ : Hp) (post : Int32 → Hp → Prop) : Prop :=
  gk σ a0 = some (8, 0) ∧ ∃ b1 : Nat, (gr σ a0 0) = some b1 ∧ ∃ b2 : Nat, (gr σ a0 4) = some b2 ∧ ∃ b3 : Nat, (gr σ a0 11) = some b3 ∧ gk σ b3 = some (1, 0) ∧ P_X1_gather b3 b2 b1 x1 σ (fun (σ4 : Hp) => gk σ4 a0 = some (8, 0) ∧ ∃ b5 : Nat, (gr σ4 a0 10) = some b5 ∧ ∃ b6 : Nat, (gr σ4 a0 4) = some b6 ∧ ∃ b7 : Nat, (gr σ4 a0 12) = some b7 ∧ gk σ4 b7 = some (1, 0) ∧ P_X1_gather b7 b6 b5 x1 σ4 (fun (σ8 : Hp) => gk σ8 a0 = some (8, 0) ∧ ∃ b9 : Nat, (gr σ8 a0 12) = some b9 ∧ ∃ b10 : Nat, (gr σ8 a0 11) = some b10 ∧ gk σ8 b10 = some (1, 0) ∧ P_X1_hasMarksOf b10 b9 σ8 (fun (r11 : Int32) (σ11 : Hp) => (¬ r11 = 0 → post (0 : Int32) σ11) ∧ (r11 = 0 → post (1 : Int32) σ11))))
set_option maxHeartbeats 2000000 in
set_option maxRecDepth 100000 in
theorem m_X8_isOtherwiseThen (l : Launch) (G : GG) (N0 : Nat) (a0 : Nat) (x1 : Int32) (σ : Hp) (post : Int32 → Hp → Prop) (hP : P_X8_isOtherwiseThen a0 x1 σ post) : MM l G N0 yX8_isOtherwiseThen cX8_isOtherwiseThen 2 (some .boolean) (40) (1156) 0 0 [.ref a0, .int x1] σ (pI post) := by
  refine MM.of (by decide) (Nat.le_of_ble_eq_true rfl) ?_
  intro p e s m args below meth c X hr hnm
  refine V.to (lv2 := [(0, .ref a0), (1, .int x1)]) [0, 1] rfl rfl ?_
  unfold P_X8_isOtherwiseThen at hP
  refine V_aload_n X dX8_isOtherwiseThen_0 rfl 0 rfl ?_
  obtain ⟨h1, hP⟩ := hP
  refine V_getr X kf_RX8_65 rfl h1 dX8_isOtherwiseThen_1 ?_
  refine V_aload_n X dX8_isOtherwiseThen_4 rfl 0 rfl ?_
  refine V_getr X kf_RX8_39 rfl h1 dX8_isOtherwiseThen_5 ?_
  refine V_aload_n X dX8_isOtherwiseThen_8 rfl 0 rfl ?_
  refine V_getr X kf_RX8_12 rfl h1 dX8_isOtherwiseThen_9 ?_
  refine V_iload_n X dX8_isOtherwiseThen_12 rfl 1 rfl ?_
  obtain ⟨b1, h2, hP⟩ := hP
  refine V_dr1 h2 ?_
  obtain ⟨b2, h3, hP⟩ := hP
  refine V_dr2 h3 ?_
  obtain ⟨b3, h4, hP⟩ := hP
  refine V_dr3 h4 ?_
  obtain ⟨h5, hP⟩ := hP
  refine V_callV_v X [.ref b2, .ref b1, .int x1] kw_RX8_165 ki_X1_gather ks_X1_gather ksg_X1_gather (m_X1_gather l G N0 _ _ _ _ _ _ hP) h5 (by decide) rfl rfl ⟨Nat.le_of_ble_eq_true rfl, Nat.le_of_ble_eq_true rfl⟩ (Nat.le_of_ble_eq_true rfl) ⟨Nat.le_of_ble_eq_true rfl, Nat.le_of_ble_eq_true rfl⟩ rfl dX8_isOtherwiseThen_13 (fun σ4 hP => ?_)
  refine V_aload_n X dX8_isOtherwiseThen_16 rfl 0 rfl ?_
  obtain ⟨h6, hP⟩ := hP
  refine V_getr X kf_RX8_69 rfl h6 dX8_isOtherwiseThen_17 ?_
  refine V_aload_n X dX8_isOtherwiseThen_20 rfl 0 rfl ?_
  refine V_getr X kf_RX8_39 rfl h6 dX8_isOtherwiseThen_21 ?_
  refine V_aload_n X dX8_isOtherwiseThen_24 rfl 0 rfl ?_
  refine V_getr X kf_RX8_59 rfl h6 dX8_isOtherwiseThen_25 ?_
  refine V_iload_n X dX8_isOtherwiseThen_28 rfl 1 rfl ?_
  obtain ⟨b5, h7, hP⟩ := hP
  refine V_dr1 h7 ?_
  obtain ⟨b6, h8, hP⟩ := hP
  refine V_dr2 h8 ?_
  obtain ⟨b7, h9, hP⟩ := hP
  refine V_dr3 h9 ?_
  obtain ⟨h10, hP⟩ := hP
  refine V_callV_v X [.ref b6, .ref b5, .int x1] kw_RX8_165 ki_X1_gather ks_X1_gather ksg_X1_gather (m_X1_gather l G N0 _ _ _ _ _ _ hP) h10 (by decide) rfl rfl ⟨Nat.le_of_ble_eq_true rfl, Nat.le_of_ble_eq_true rfl⟩ (Nat.le_of_ble_eq_true rfl) ⟨Nat.le_of_ble_eq_true rfl, Nat.le_of_ble_eq_true rfl⟩ rfl dX8_isOtherwiseThen_29 (fun σ8 hP => ?_)
  refine V_aload_n X dX8_isOtherwiseThen_32 rfl 0 rfl ?_
  obtain ⟨h11, hP⟩ := hP
  refine V_getr X kf_RX8_65 rfl h11 dX8_isOtherwiseThen_33 ?_
  refine V_aload_n X dX8_isOtherwiseThen_36 rfl 0 rfl ?_
  refine V_getr X kf_RX8_69 rfl h11 dX8_isOtherwiseThen_37 ?_
  obtain ⟨b9, h12, hP⟩ := hP
  refine V_dr0 h12 ?_
  obtain ⟨b10, h13, hP⟩ := hP
  refine V_dr1 h13 ?_
  obtain ⟨h14, hP⟩ := hP
  refine V_callV_i X [.ref b9] kw_RX8_189 ki_X1_hasMarksOf ks_X1_hasMarksOf ksg_X1_hasMarksOf (m_X1_hasMarksOf l G N0 _ _ _ _ hP) h14 (by decide) rfl rfl ⟨Nat.le_of_ble_eq_true rfl, Nat.le_of_ble_eq_true rfl⟩ (Nat.le_of_ble_eq_true rfl) ⟨Nat.le_of_ble_eq_true rfl, Nat.le_of_ble_eq_true rfl⟩ rfl dX8_isOtherwiseThen_40 (fun r11 σ11 hP => ?_)
  refine V_if_ne X (tgt := 50) dX8_isOtherwiseThen_43 (by decide) (fun h15 => ?_) (fun h15 => ?_)
  · have hP := hP.1 h15
    refine V_iconst X (v := (0 : Int32)) dX8_isOtherwiseThen_50 (by decide) ?_
    exact V_iret X hr (Or.inr ⟨rfl, Or.inl rfl⟩) (Nat.le_of_ble_eq_true rfl) (Nat.le_of_ble_eq_true rfl) dX8_isOtherwiseThen_51 ⟨_, rfl, hP⟩
  · have hP := hP.2 h15
    refine V_iconst X (v := (1 : Int32)) dX8_isOtherwiseThen_46 (by decide) ?_
    refine V_goto X (tgt := 51) dX8_isOtherwiseThen_47 (by decide) ?_
    exact V_iret X hr (Or.inr ⟨rfl, Or.inr rfl⟩) (Nat.le_of_ble_eq_true rfl) (Nat.le_of_ble_eq_true rfl) dX8_isOtherwiseThen_51 ⟨_, rfl, hP⟩
def P_X8_mark (a0 : Nat) (x1 : Int32) (x2 : Int32) (σ : Hp) (post : Int32 → Hp → Prop) : Prop :=
  gk σ a0 = some (8, 0) ∧ ∃ b1 : Nat, (gr σ a0 0) = some b1 ∧ ∃ b2 : Nat, (gr σ a0 4) = some b2 ∧ ∃ b3 : Nat, (gr σ a0 11) = some b3 ∧ gk σ b3 = some (1, 0) ∧ P_X1_gather b3 b2 b1 x1 σ (fun (σ4 : Hp) => gk σ4 a0 = some (8, 0) ∧ ∃ b5 : Nat, (gr σ4 a0 11) = some b5 ∧ gk σ4 b5 = some (1, 0) ∧ P_X1_at b5 x2 σ4 (fun (r6 : Int32) (σ6 : Hp) => post r6 σ6))
set_option maxHeartbeats 2000000 in
set_option maxRecDepth 100000 in
theorem m_X8_mark (l : Launch) (G : GG) (N0 : Nat) (a0 : Nat) (x1 : Int32) (x2 : Int32) (σ : Hp) (post : Int32 → Hp → Prop) (hP : P_X8_mark a0 x1 x2 σ post) : MM l G N0 yX8_mark cX8_mark 3 (some .int) (40) (1156) 0 0 [.ref a0, .int x1, .int x2] σ (pI post) := by
  refine MM.of (by decide) (Nat.le_of_ble_eq_true rfl) ?_
  intro p e s m args below meth c X hr hnm
  refine V.to (lv2 := [(0, .ref a0), (1, .int x1), (2, .int x2)]) [0, 1, 2] rfl rfl ?_
  unfold P_X8_mark at hP
  refine V_aload_n X dX8_mark_0 rfl 0 rfl ?_
  obtain ⟨h1, hP⟩ := hP
  refine V_getr X kf_RX8_65 rfl h1 dX8_mark_1 ?_
  refine V_aload_n X dX8_mark_4 rfl 0 rfl ?_
  refine V_getr X kf_RX8_39 rfl h1 dX8_mark_5 ?_
  refine V_aload_n X dX8_mark_8 rfl 0 rfl ?_
  refine V_getr X kf_RX8_12 rfl h1 dX8_mark_9 ?_
  refine V_iload_n X dX8_mark_12 rfl 1 rfl ?_
  obtain ⟨b1, h2, hP⟩ := hP
  refine V_dr1 h2 ?_
  obtain ⟨b2, h3, hP⟩ := hP
  refine V_dr2 h3 ?_
  obtain ⟨b3, h4, hP⟩ := hP
  refine V_dr3 h4 ?_
  obtain ⟨h5, hP⟩ := hP
  refine V_callV_v X [.ref b2, .ref b1, .int x1] kw_RX8_165 ki_X1_gather ks_X1_gather ksg_X1_gather (m_X1_gather l G N0 _ _ _ _ _ _ hP) h5 (by decide) rfl rfl ⟨Nat.le_of_ble_eq_true rfl, Nat.le_of_ble_eq_true rfl⟩ (Nat.le_of_ble_eq_true rfl) ⟨Nat.le_of_ble_eq_true rfl, Nat.le_of_ble_eq_true rfl⟩ rfl dX8_mark_13 (fun σ4 hP => ?_)
  refine V_aload_n X dX8_mark_16 rfl 0 rfl ?_
  obtain ⟨h6, hP⟩ := hP
  refine V_getr X kf_RX8_65 rfl h6 dX8_mark_17 ?_
  refine V_iload_n X dX8_mark_20 rfl 2 rfl ?_
  obtain ⟨b5, h7, hP⟩ := hP
  refine V_dr1 h7 ?_
  obtain ⟨h8, hP⟩ := hP
  refine V_callV_i X [.int x2] kw_RX8_170 ki_X1_at ks_X1_at ksg_X1_at (m_X1_at l G N0 _ _ _ _ hP) h8 (by decide) rfl rfl ⟨Nat.le_of_ble_eq_true rfl, Nat.le_of_ble_eq_true rfl⟩ (Nat.le_of_ble_eq_true rfl) ⟨Nat.le_of_ble_eq_true rfl, Nat.le_of_ble_eq_true rfl⟩ rfl dX8_mark_21 (fun r6 σ6 hP => ?_)
  exact V_iret X hr (Or.inl rfl) (Nat.le_of_ble_eq_true rfl) (Nat.le_of_ble_eq_true rfl) dX8_mark_24 ⟨_, rfl, hP⟩
def P_X8_of (a0 : Nat) (x1 : Int32) (x2 : Int32) (σ : Hp) (post : Int32 → Hp → Prop) : Prop :=
  gk σ a0 = some (8, 0) ∧ ∃ b1 : Nat, (gr σ a0 0) = some b1 ∧ gk σ b1 = some (5, 0) ∧ P_X5_at b1 x1 σ (fun (r2 : Option Nat) (σ2 : Hp) => (r2 = none → post (-5000 : Int32) σ2) ∧ (∀ b3 : Nat, r2 = some b3 → ((Int32.toInt x2 < 0 ∨ 4 < Int32.toInt x2) → post (-5000 : Int32) σ2) ∧ (Int32.toInt x2 = 0 → gk σ2 b3 = some (4, 0) ∧ post (gi σ2 b3 1) σ2) ∧ (Int32.toInt x2 = 1 → gk σ2 b3 = some (4, 0) ∧ post (gi σ2 b3 2) σ2) ∧ (Int32.toInt x2 = 2 → gk σ2 b3 = some (4, 0) ∧ post (gi σ2 b3 3) σ2) ∧ (Int32.toInt x2 = 3 → gk σ2 b3 = some (4, 0) ∧ post (gi σ2 b3 4) σ2) ∧ (Int32.toInt x2 = 4 → gk σ2 b3 = some (4, 0) ∧ ((gi σ2 b3 5) = 0 → post (0 : Int32) σ2) ∧ (¬ ((gi σ2 b3 5) = 0) → post (1 : Int32) σ2))))
set_option maxHeartbeats 2000000 in
set_option maxRecDepth 100000 in
theorem m_X8_of (l : Launch) (G : GG) (N0 : Nat) (a0 : Nat) (x1 : Int32) (x2 : Int32) (σ : Hp) (post : Int32 → Hp → Prop) (hP : P_X8_of a0 x1 x2 σ post) : MM l G N0 yX8_of cX8_of 4 (some .int) (1) (21) 0 0 [.ref a0, .int x1, .int x2] σ (pI post) := by
  refine MM.of (by decide) (Nat.le_of_ble_eq_true rfl) ?_
  intro p e s m args below meth c X hr hnm
  refine V.to (lv2 := [(0, .ref a0), (1, .int x1), (2, .int x2)]) [0, 1, 2] rfl rfl ?_
  unfold P_X8_of at hP
  refine V_aload_n X dX8_of_0 rfl 0 rfl ?_
  obtain ⟨h1, hP⟩ := hP
  refine V_getr X kf_RX8_12 rfl h1 dX8_of_1 ?_
  refine V_iload_n X dX8_of_4 rfl 1 rfl ?_
  obtain ⟨b1, h2, hP⟩ := hP
  refine V_dr1 h2 ?_
  obtain ⟨h3, hP⟩ := hP
  refine V_callV_r X [.int x1] kw_RX8_122 ki_X5_at ks_X5_at ksg_X5_at (m_X5_at l G N0 _ _ _ _ hP) h3 (by decide) rfl rfl ⟨Nat.le_of_ble_eq_true rfl, Nat.le_of_ble_eq_true rfl⟩ (Nat.le_of_ble_eq_true rfl) ⟨Nat.le_of_ble_eq_true rfl, Nat.le_of_ble_eq_true rfl⟩ rfl dX8_of_5 (fun r2 σ2 hP => ?_)
  refine V_astore_nr X (x := r2) (lv' := [(3, va_rf r2), (0, .ref a0), (1, .int x1), (2, .int x2)]) dX8_of_8 rfl (by decide) rfl ?_
  refine V_aload_nr X dX8_of_9 rfl 0 rfl ?_
  refine V_ifnonnull X (tgt := 17) dX8_of_10 (by decide) (fun b3 h4 => ?_) (fun h4 => ?_)
  · have hP := hP.2 b3 h4
    refine V_iload_n X dX8_of_17 rfl 3 rfl ?_
    rcases (show (Int32.toInt x2 < 0 ∨ 4 < Int32.toInt x2) ∨ Int32.toInt x2 = 0 ∨ Int32.toInt x2 = 1 ∨ Int32.toInt x2 = 2 ∨ Int32.toInt x2 = 3 ∨ Int32.toInt x2 = 4 by omega) with h5 | h5 | h5 | h5 | h5 | h5
    · have hP := hP.1 h5
      refine V_tabOut X (tgt := 85) dX8_of_18 h5 (by decide) ?_
      refine V_sipush X (v := (-5000 : Int32)) dX8_of_85 (by decide) ?_
      exact V_iret X hr (Or.inl rfl) (Nat.le_of_ble_eq_true rfl) (Nat.le_of_ble_eq_true rfl) dX8_of_88 ⟨_, rfl, hP⟩
    · have hP := hP.2.1 h5
      refine V_tabIn X (tgt := 52) (off := 34) dX8_of_18 (by omega) (by omega) (by rw [h5]; rfl) (by decide) ?_
      refine V_aload_nr X dX8_of_52 rfl 0 rfl ?_
      refine V_dr0 h4 ?_
      obtain ⟨h6, hP⟩ := hP
      refine V_geti X kf_RX8_125 rfl h6 dX8_of_53 ?_
      exact V_iret X hr (Or.inl rfl) (Nat.le_of_ble_eq_true rfl) (Nat.le_of_ble_eq_true rfl) dX8_of_56 ⟨_, rfl, hP⟩
    · have hP := hP.2.2.1 h5
      refine V_tabIn X (tgt := 57) (off := 39) dX8_of_18 (by omega) (by omega) (by rw [h5]; rfl) (by decide) ?_
      refine V_aload_nr X dX8_of_57 rfl 0 rfl ?_
      refine V_dr0 h4 ?_
      obtain ⟨h7, hP⟩ := hP
      refine V_geti X kf_RX8_111 rfl h7 dX8_of_58 ?_
      exact V_iret X hr (Or.inl rfl) (Nat.le_of_ble_eq_true rfl) (Nat.le_of_ble_eq_true rfl) dX8_of_61 ⟨_, rfl, hP⟩
    · have hP := hP.2.2.2.1 h5
      refine V_tabIn X (tgt := 62) (off := 44) dX8_of_18 (by omega) (by omega) (by rw [h5]; rfl) (by decide) ?_
      refine V_aload_nr X dX8_of_62 rfl 0 rfl ?_
      refine V_dr0 h4 ?_
      obtain ⟨h8, hP⟩ := hP
      refine V_geti X kf_RX8_128 rfl h8 dX8_of_63 ?_
      exact V_iret X hr (Or.inl rfl) (Nat.le_of_ble_eq_true rfl) (Nat.le_of_ble_eq_true rfl) dX8_of_66 ⟨_, rfl, hP⟩
    · have hP := hP.2.2.2.2.1 h5
      refine V_tabIn X (tgt := 67) (off := 49) dX8_of_18 (by omega) (by omega) (by rw [h5]; rfl) (by decide) ?_
      refine V_aload_nr X dX8_of_67 rfl 0 rfl ?_
      refine V_dr0 h4 ?_
      obtain ⟨h9, hP⟩ := hP
      refine V_geti X kf_RX8_131 rfl h9 dX8_of_68 ?_
      exact V_iret X hr (Or.inl rfl) (Nat.le_of_ble_eq_true rfl) (Nat.le_of_ble_eq_true rfl) dX8_of_71 ⟨_, rfl, hP⟩
    · have hP := hP.2.2.2.2.2 h5
      refine V_tabIn X (tgt := 72) (off := 54) dX8_of_18 (by omega) (by omega) (by rw [h5]; rfl) (by decide) ?_
      refine V_aload_nr X dX8_of_72 rfl 0 rfl ?_
      refine V_dr0 h4 ?_
      obtain ⟨h10, hP⟩ := hP
      refine V_geti X kf_RX8_134 rfl h10 dX8_of_73 ?_
      refine V_if_eq X (tgt := 83) dX8_of_76 (by decide) (fun h11 => ?_) (fun h11 => ?_)
      · have hP := hP.1 h11
        refine V_iconst X (v := (0 : Int32)) dX8_of_83 (by decide) ?_
        exact V_iret X hr (Or.inl rfl) (Nat.le_of_ble_eq_true rfl) (Nat.le_of_ble_eq_true rfl) dX8_of_84 ⟨_, rfl, hP⟩
      · have hP := hP.2 h11
        refine V_iconst X (v := (1 : Int32)) dX8_of_79 (by decide) ?_
        refine V_goto X (tgt := 84) dX8_of_80 (by decide) ?_
        exact V_iret X hr (Or.inl rfl) (Nat.le_of_ble_eq_true rfl) (Nat.le_of_ble_eq_true rfl) dX8_of_84 ⟨_, rfl, hP⟩
  · have hP := hP.1 h4
    refine V_sipush X (v := (-5000 : Int32)) dX8_of_13 (by decide) ?_
    exact V_iret X hr (Or.inl rfl) (Nat.le_of_ble_eq_true rfl) (Nat.le_of_ble_eq_true rfl) dX8_of_16 ⟨_, rfl, hP⟩
def J_X8_page_11 (post : Int32 → Hp → Prop) (a0 : Nat) (x1 : Int32) (x2 : Int32) (x3 : Int32) (x4 : Int32) (y0 : Int32) (σ11 : Hp) : Prop :=
  (x2 < (1 : Int32) → (y0 = 0 → post (-5000 : Int32) σ11) ∧ (¬ (y0 = 0) → post (0 : Int32) σ11)) ∧ (¬ (x2 < (1 : Int32)) → ((100 : Int32) < x2 → (y0 = 0 → post (-5000 : Int32) σ11) ∧ (¬ (y0 = 0) → post (0 : Int32) σ11)) ∧ (¬ ((100 : Int32) < x2) → (0 ≤ x3 → gk σ11 a0 = some (8, 0) ∧ ∃ b1101 : Nat, (gr σ11 a0 0) = some b1101 ∧ ∃ b1102 : Nat, (gr σ11 a0 4) = some b1102 ∧ ∃ b1103 : Nat, (gr σ11 a0 11) = some b1103 ∧ gk σ11 b1103 = some (1, 0) ∧ P_X1_gather b1103 b1102 b1101 x1 σ11 (fun (σ1104 : Hp) => gk σ1104 a0 = some (8, 0) ∧ ∃ b1105 : Nat, (gr σ1104 a0 11) = some b1105 ∧ gk σ1104 b1105 = some (1, 0) ∧ P_X1_length b1105 σ1104 (fun (r1106 : Int32) (σ1106 : Hp) => (y0 = 0 → (x4 < 0 → post (-5000 : Int32) σ1106) ∧ (¬ (x4 < 0) → (0 ≤ (lg_cmp (Int32.toInt64 x4) (if (if ((Int32.toInt64 r1106) - ((Int32.toInt64 x3) * (Int32.toInt64 x2))) < (Int32.toInt64 x2) then ((Int32.toInt64 r1106) - ((Int32.toInt64 x3) * (Int32.toInt64 x2))) else (Int32.toInt64 x2)) < (0 : Int64) then (0 : Int64) else (if ((Int32.toInt64 r1106) - ((Int32.toInt64 x3) * (Int32.toInt64 x2))) < (Int32.toInt64 x2) then ((Int32.toInt64 r1106) - ((Int32.toInt64 x3) * (Int32.toInt64 x2))) else (Int32.toInt64 x2)))) → post (-5000 : Int32) σ1106) ∧ (¬ (0 ≤ (lg_cmp (Int32.toInt64 x4) (if (if ((Int32.toInt64 r1106) - ((Int32.toInt64 x3) * (Int32.toInt64 x2))) < (Int32.toInt64 x2) then ((Int32.toInt64 r1106) - ((Int32.toInt64 x3) * (Int32.toInt64 x2))) else (Int32.toInt64 x2)) < (0 : Int64) then (0 : Int64) else (if ((Int32.toInt64 r1106) - ((Int32.toInt64 x3) * (Int32.toInt64 x2))) < (Int32.toInt64 x2) then ((Int32.toInt64 r1106) - ((Int32.toInt64 x3) * (Int32.toInt64 x2))) else (Int32.toInt64 x2))))) → gk σ1106 a0 = some (8, 0) ∧ ∃ b1107 : Nat, (gr σ1106 a0 11) = some b1107 ∧ gk σ1106 b1107 = some (1, 0) ∧ P_X1_at b1107 ((Int64.toInt32 ((Int32.toInt64 x3) * (Int32.toInt64 x2))) + x4) σ1106 (fun (r1108 : Int32) (σ1108 : Hp) => post r1108 σ1108)))) ∧ (¬ (y0 = 0) → post (Int64.toInt32 (if (if ((Int32.toInt64 r1106) - ((Int32.toInt64 x3) * (Int32.toInt64 x2))) < (Int32.toInt64 x2) then ((Int32.toInt64 r1106) - ((Int32.toInt64 x3) * (Int32.toInt64 x2))) else (Int32.toInt64 x2)) < (0 : Int64) then (0 : Int64) else (if ((Int32.toInt64 r1106) - ((Int32.toInt64 x3) * (Int32.toInt64 x2))) < (Int32.toInt64 x2) then ((Int32.toInt64 r1106) - ((Int32.toInt64 x3) * (Int32.toInt64 x2))) else (Int32.toInt64 x2)))) σ1106)))) ∧ (¬ (0 ≤ x3) → (y0 = 0 → post (-5000 : Int32) σ11) ∧ (¬ (y0 = 0) → post (0 : Int32) σ11))))
def P_X8_page (a0 : Nat) (x1 : Int32) (x2 : Int32) (x3 : Int32) (x4 : Int32) (σ : Hp) (post : Int32 → Hp → Prop) : Prop :=
  (¬ x4 = (-1 : Int32) → J_X8_page_11 post a0 x1 x2 x3 x4 (0 : Int32) σ) ∧ (x4 = (-1 : Int32) → J_X8_page_11 post a0 x1 x2 x3 x4 (1 : Int32) σ)
set_option maxHeartbeats 2000000 in
set_option maxRecDepth 100000 in
theorem m_X8_page (l : Launch) (G : GG) (N0 : Nat) (a0 : Nat) (x1 : Int32) (x2 : Int32) (x3 : Int32) (x4 : Int32) (σ : Hp) (post : Int32 → Hp → Prop) (hP : P_X8_page a0 x1 x2 x3 x4 σ post) : MM l G N0 yX8_page cX8_page 10 (some .int) (40) (1156) 0 0 [.ref a0, .int x1, .int x2, .int x3, .int x4] σ (pI post) := by
  refine MM.of (by decide) (Nat.le_of_ble_eq_true rfl) ?_
  intro p e s m args below meth c X hr hnm
  refine V.to (lv2 := [(0, .ref a0), (1, .int x1), (2, .int x2), (3, .int x3), (4, .int x4)]) [0, 1, 2, 3, 4] rfl rfl ?_
  have hJ11 : ∀ (a0 : Nat) (x1 : Int32) (x2 : Int32) (x3 : Int32) (x4 : Int32) (y0 : Int32) (σ11 : Hp), J_X8_page_11 post a0 x1 x2 x3 x4 y0 σ11 → V p l e { frames := 40, cells := 0, slots := 0, locals := 1156 } s m args below meth c (MQ below (QC G N0 (pI post)) args s 0 0 (AN N0)) G N0 10 σ11 0 0 11 [(0, .ref a0), (1, .int x1), (2, .int x2), (3, .int x3), (4, .int x4)] [.int y0] := by
    intro a0 x1 x2 x3 x4 y0 σ11 hP
    unfold J_X8_page_11 at hP
    refine V_istore X (lv' := [(5, .int y0), (0, .ref a0), (1, .int x1), (2, .int x2), (3, .int x3), (4, .int x4)]) dX8_page_11 (by decide) rfl ?_
    refine V_iload_n X dX8_page_13 rfl 3 rfl ?_
    refine V_iconst X (v := (1 : Int32)) dX8_page_14 (by decide) ?_
    refine V_icmp_lt X (tgt := 28) dX8_page_15 (by decide) (fun h11001 => ?_) (fun h11001 => ?_)
    · have hP := hP.1 h11001
      refine V_iload X dX8_page_28 0 rfl ?_
      refine V_if_eq X (tgt := 37) dX8_page_30 (by decide) (fun h11002 => ?_) (fun h11002 => ?_)
      · have hP := hP.1 h11002
        refine V_sipush X (v := (-5000 : Int32)) dX8_page_37 (by decide) ?_
        exact V_iret X hr (Or.inl rfl) (Nat.le_of_ble_eq_true rfl) (Nat.le_of_ble_eq_true rfl) dX8_page_40 ⟨_, rfl, hP⟩
      · have hP := hP.2 h11002
        refine V_iconst X (v := (0 : Int32)) dX8_page_33 (by decide) ?_
        refine V_goto X (tgt := 40) dX8_page_34 (by decide) ?_
        exact V_iret X hr (Or.inl rfl) (Nat.le_of_ble_eq_true rfl) (Nat.le_of_ble_eq_true rfl) dX8_page_40 ⟨_, rfl, hP⟩
    · have hP := hP.2 h11001
      refine V_iload_n X dX8_page_18 rfl 3 rfl ?_
      refine V_bipush X (v := (100 : Int32)) dX8_page_19 (by decide) ?_
      refine V_icmp_gt X (tgt := 28) dX8_page_21 (by decide) (fun h11003 => ?_) (fun h11003 => ?_)
      · have hP := hP.1 h11003
        refine V_iload X dX8_page_28 0 rfl ?_
        refine V_if_eq X (tgt := 37) dX8_page_30 (by decide) (fun h11004 => ?_) (fun h11004 => ?_)
        · have hP := hP.1 h11004
          refine V_sipush X (v := (-5000 : Int32)) dX8_page_37 (by decide) ?_
          exact V_iret X hr (Or.inl rfl) (Nat.le_of_ble_eq_true rfl) (Nat.le_of_ble_eq_true rfl) dX8_page_40 ⟨_, rfl, hP⟩
        · have hP := hP.2 h11004
          refine V_iconst X (v := (0 : Int32)) dX8_page_33 (by decide) ?_
          refine V_goto X (tgt := 40) dX8_page_34 (by decide) ?_
          exact V_iret X hr (Or.inl rfl) (Nat.le_of_ble_eq_true rfl) (Nat.le_of_ble_eq_true rfl) dX8_page_40 ⟨_, rfl, hP⟩
      · have hP := hP.2 h11003
        refine V_iload_n X dX8_page_24 rfl 4 rfl ?_
        refine V_if_ge X (tgt := 41) dX8_page_25 (by decide) (fun h11005 => ?_) (fun h11005 => ?_)
        · have hP := hP.1 h11005
          refine V_aload_n X dX8_page_41 rfl 1 rfl ?_
          obtain ⟨h11006, hP⟩ := hP
          refine V_getr X kf_RX8_65 rfl h11006 dX8_page_42 ?_
          refine V_aload_n X dX8_page_45 rfl 1 rfl ?_
          refine V_getr X kf_RX8_39 rfl h11006 dX8_page_46 ?_
          refine V_aload_n X dX8_page_49 rfl 1 rfl ?_
          refine V_getr X kf_RX8_12 rfl h11006 dX8_page_50 ?_
          refine V_iload_n X dX8_page_53 rfl 2 rfl ?_
          obtain ⟨b1101, h11007, hP⟩ := hP
          refine V_dr1 h11007 ?_
          obtain ⟨b1102, h11008, hP⟩ := hP
          refine V_dr2 h11008 ?_
          obtain ⟨b1103, h11009, hP⟩ := hP
          refine V_dr3 h11009 ?_
          obtain ⟨h11010, hP⟩ := hP
          refine V_callV_v X [.ref b1102, .ref b1101, .int x1] kw_RX8_165 ki_X1_gather ks_X1_gather ksg_X1_gather (m_X1_gather l G N0 _ _ _ _ _ _ hP) h11010 (by decide) rfl rfl ⟨Nat.le_of_ble_eq_true rfl, Nat.le_of_ble_eq_true rfl⟩ (Nat.le_of_ble_eq_true rfl) ⟨Nat.le_of_ble_eq_true rfl, Nat.le_of_ble_eq_true rfl⟩ rfl dX8_page_54 (fun σ1104 hP => ?_)
          refine V_iload_n X dX8_page_57 rfl 4 rfl ?_
          refine V_i2l X dX8_page_58 ?_
          refine V_iload_n X dX8_page_59 rfl 3 rfl ?_
          refine V_i2l X dX8_page_60 ?_
          refine V_lmul X dX8_page_61 ?_
          refine V_lstore X (lv' := [(6, .long ((Int32.toInt64 x3) * (Int32.toInt64 x2))), (5, .int y0), (0, .ref a0), (1, .int x1), (2, .int x2), (3, .int x3), (4, .int x4)]) dX8_page_62 (by decide) rfl ?_
          refine V_lconst X (v := (0 : Int64)) dX8_page_64 (by decide) ?_
          refine V_iload_n X dX8_page_65 rfl 4 rfl ?_
          refine V_i2l X dX8_page_66 ?_
          refine V_aload_n X dX8_page_67 rfl 2 rfl ?_
          obtain ⟨h11011, hP⟩ := hP
          refine V_getr X kf_RX8_65 rfl h11011 dX8_page_68 ?_
          obtain ⟨b1105, h11012, hP⟩ := hP
          refine V_dr0 h11012 ?_
          obtain ⟨h11013, hP⟩ := hP
          refine V_callV_i X [] kw_RX8_169 ki_X1_length ks_X1_length ksg_X1_length (m_X1_length l G N0 _ _ _ hP) h11013 (by decide) rfl rfl ⟨Nat.le_of_ble_eq_true rfl, Nat.le_of_ble_eq_true rfl⟩ (Nat.le_of_ble_eq_true rfl) ⟨Nat.le_of_ble_eq_true rfl, Nat.le_of_ble_eq_true rfl⟩ rfl dX8_page_71 (fun r1106 σ1106 hP => ?_)
          refine V_i2l X dX8_page_74 ?_
          refine V_lload X dX8_page_75 0 rfl ?_
          refine V_lsub X dX8_page_77 ?_
          refine V_mminl X kl_RX8_172 km_minl_s km_ini km_minl_c (Nat.le_of_ble_eq_true rfl) ⟨Nat.le_of_ble_eq_true rfl, Nat.le_of_ble_eq_true rfl⟩ ⟨Nat.le_of_ble_eq_true rfl, Nat.le_of_ble_eq_true rfl⟩ dX8_page_78 ?_
          refine V_mmaxl X kl_RX8_178 km_maxl_s km_ini km_maxl_c (Nat.le_of_ble_eq_true rfl) ⟨Nat.le_of_ble_eq_true rfl, Nat.le_of_ble_eq_true rfl⟩ ⟨Nat.le_of_ble_eq_true rfl, Nat.le_of_ble_eq_true rfl⟩ dX8_page_81 ?_
          refine V_lstore X (lv' := [(8, .long (if (if ((Int32.toInt64 r1106) - ((Int32.toInt64 x3) * (Int32.toInt64 x2))) < (Int32.toInt64 x2) then ((Int32.toInt64 r1106) - ((Int32.toInt64 x3) * (Int32.toInt64 x2))) else (Int32.toInt64 x2)) < (0 : Int64) then (0 : Int64) else (if ((Int32.toInt64 r1106) - ((Int32.toInt64 x3) * (Int32.toInt64 x2))) < (Int32.toInt64 x2) then ((Int32.toInt64 r1106) - ((Int32.toInt64 x3) * (Int32.toInt64 x2))) else (Int32.toInt64 x2)))), (6, .long ((Int32.toInt64 x3) * (Int32.toInt64 x2))), (5, .int y0), (0, .ref a0), (1, .int x1), (2, .int x2), (3, .int x3), (4, .int x4)]) dX8_page_84 (by decide) rfl ?_
          refine V_iload X dX8_page_86 2 rfl ?_
          refine V_if_eq X (tgt := 95) dX8_page_88 (by decide) (fun h11014 => ?_) (fun h11014 => ?_)
          · have hP := hP.1 h11014
            refine V_iload X dX8_page_95 7 rfl ?_
            refine V_if_lt X (tgt := 125) dX8_page_97 (by decide) (fun h11015 => ?_) (fun h11015 => ?_)
            · have hP := hP.1 h11015
              refine V_sipush X (v := (-5000 : Int32)) dX8_page_125 (by decide) ?_
              exact V_iret X hr (Or.inl rfl) (Nat.le_of_ble_eq_true rfl) (Nat.le_of_ble_eq_true rfl) dX8_page_128 ⟨_, rfl, hP⟩
            · have hP := hP.2 h11015
              refine V_iload X dX8_page_100 7 rfl ?_
              refine V_i2l X dX8_page_102 ?_
              refine V_lload X dX8_page_103 0 rfl ?_
              refine V_lcmp X dX8_page_105 ?_
              refine V_if_ge X (tgt := 125) dX8_page_106 (by decide) (fun h11016 => ?_) (fun h11016 => ?_)
              · have hP := hP.1 h11016
                refine V_sipush X (v := (-5000 : Int32)) dX8_page_125 (by decide) ?_
                exact V_iret X hr (Or.inl rfl) (Nat.le_of_ble_eq_true rfl) (Nat.le_of_ble_eq_true rfl) dX8_page_128 ⟨_, rfl, hP⟩
              · have hP := hP.2 h11016
                refine V_aload_n X dX8_page_109 rfl 3 rfl ?_
                obtain ⟨h11017, hP⟩ := hP
                refine V_getr X kf_RX8_65 rfl h11017 dX8_page_110 ?_
                refine V_lload X dX8_page_113 1 rfl ?_
                refine V_l2i X dX8_page_115 ?_
                refine V_iload X dX8_page_116 7 rfl ?_
                refine V_iadd X dX8_page_118 ?_
                obtain ⟨b1107, h11018, hP⟩ := hP
                refine V_dr1 h11018 ?_
                obtain ⟨h11019, hP⟩ := hP
                refine V_callV_i X [.int ((Int64.toInt32 ((Int32.toInt64 x3) * (Int32.toInt64 x2))) + x4)] kw_RX8_170 ki_X1_at ks_X1_at ksg_X1_at (m_X1_at l G N0 _ _ _ _ hP) h11019 (by decide) rfl rfl ⟨Nat.le_of_ble_eq_true rfl, Nat.le_of_ble_eq_true rfl⟩ (Nat.le_of_ble_eq_true rfl) ⟨Nat.le_of_ble_eq_true rfl, Nat.le_of_ble_eq_true rfl⟩ rfl dX8_page_119 (fun r1108 σ1108 hP => ?_)
                refine V_goto X (tgt := 128) dX8_page_122 (by decide) ?_
                exact V_iret X hr (Or.inl rfl) (Nat.le_of_ble_eq_true rfl) (Nat.le_of_ble_eq_true rfl) dX8_page_128 ⟨_, rfl, hP⟩
          · have hP := hP.2 h11014
            refine V_lload X dX8_page_91 0 rfl ?_
            refine V_l2i X dX8_page_93 ?_
            exact V_iret X hr (Or.inl rfl) (Nat.le_of_ble_eq_true rfl) (Nat.le_of_ble_eq_true rfl) dX8_page_94 ⟨_, rfl, hP⟩
        · have hP := hP.2 h11005
          refine V_iload X dX8_page_28 0 rfl ?_
          refine V_if_eq X (tgt := 37) dX8_page_30 (by decide) (fun h11020 => ?_) (fun h11020 => ?_)
          · have hP := hP.1 h11020
            refine V_sipush X (v := (-5000 : Int32)) dX8_page_37 (by decide) ?_
            exact V_iret X hr (Or.inl rfl) (Nat.le_of_ble_eq_true rfl) (Nat.le_of_ble_eq_true rfl) dX8_page_40 ⟨_, rfl, hP⟩
          · have hP := hP.2 h11020
            refine V_iconst X (v := (0 : Int32)) dX8_page_33 (by decide) ?_
            refine V_goto X (tgt := 40) dX8_page_34 (by decide) ?_
            exact V_iret X hr (Or.inl rfl) (Nat.le_of_ble_eq_true rfl) (Nat.le_of_ble_eq_true rfl) dX8_page_40 ⟨_, rfl, hP⟩
  unfold P_X8_page at hP
  refine V_iload X dX8_page_0 4 rfl ?_
  refine V_iconst X (v := (-1 : Int32)) dX8_page_2 (by decide) ?_
  refine V_icmp_ne X (tgt := 10) dX8_page_3 (by decide) (fun h1 => ?_) (fun h1 => ?_)
  · have hP := hP.1 h1
    refine V_iconst X (v := (0 : Int32)) dX8_page_10 (by decide) ?_
    exact V.to [0, 1, 2, 3, 4] rfl rfl (hJ11 _ _ _ _ _ _ _ hP)
  · have hP := hP.2 h1
    refine V_iconst X (v := (1 : Int32)) dX8_page_6 (by decide) ?_
    refine V_goto X (tgt := 11) dX8_page_7 (by decide) ?_
    exact V.to [0, 1, 2, 3, 4] rfl rfl (hJ11 _ _ _ _ _ _ _ hP)
def P_X8_reader (a0 : Nat) (x1 : Int32) (σ : Hp) (post : Int32 → Hp → Prop) : Prop :=
  gk σ a0 = some (8, 0) ∧ ∃ b1 : Nat, (gr σ a0 0) = some b1 ∧ gk σ b1 = some (5, 0) ∧ P_X5_standing b1 x1 σ (fun (r2 : Option Nat) (σ2 : Hp) => (r2 = none → gk σ2 a0 = some (8, 0) ∧ P_X8_refused a0 (-2 : Int32) σ2 (fun (r4 : Int32) (σ4 : Hp) => post r4 σ4)) ∧ (∀ b3 : Nat, r2 = some b3 → gk σ2 a0 = some (8, 0) ∧ ((gi σ2 a0 5) < 0 → P_X8_refused a0 (-5 : Int32) σ2 (fun (r5 : Int32) (σ5 : Hp) => post r5 σ5)) ∧ (¬ ((gi σ2 a0 5) < 0) → ∃ b6 : Nat, (gr σ2 a0 3) = some b6 ∧ ∃ n7 : Nat, gk σ2 b6 = some (12, n7) ∧ ((gi σ2 a0 5) < (Int32.ofNat n7) → ∀ q8 : Nat, gk σ2 q8 = none → P_X3_init q8 x1 (nw σ2 q8 3 0) (fun (σ9 : Hp) => ∃ n10 : Nat, gk σ9 b6 = some (12, n10) ∧ vp_in (gi σ2 a0 5) n10 ∧ gk σ9 q8 = some (3, 0) ∧ gk σ9 a0 = some (8, 0) ∧ P_X8_answered a0 (gi σ2 a0 5) (si (sr σ9 b6 (Int32.toNatClampNeg (gi σ2 a0 5)) (some q8)) a0 5 ((gi σ2 a0 5) + (1 : Int32))) (fun (r11 : Int32) (σ11 : Hp) => post r11 σ11))) ∧ (¬ ((gi σ2 a0 5) < (Int32.ofNat n7)) → P_X8_refused a0 (-5 : Int32) σ2 (fun (r12 : Int32) (σ12 : Hp) => post r12 σ12)))))
set_option maxHeartbeats 2000000 in
set_option maxRecDepth 100000 in
theorem m_X8_reader (l : Launch) (G : GG) (N0 : Nat) (a0 : Nat) (x1 : Int32) (σ : Hp) (post : Int32 → Hp → Prop) (hP : P_X8_reader a0 x1 σ post) : MM l G N0 yX8_reader cX8_reader 3 (some .int) (3) (61) 3 605 [.ref a0, .int x1] σ (pI post) := by
  refine MM.of (by decide) (Nat.le_of_ble_eq_true rfl) ?_
  intro p e s m args below meth c X hr hnm
  refine V.to (lv2 := [(0, .ref a0), (1, .int x1)]) [0, 1] rfl rfl ?_
  unfold P_X8_reader at hP
  refine V_aload_n X dX8_reader_0 rfl 0 rfl ?_
  obtain ⟨h1, hP⟩ := hP
  refine V_getr X kf_RX8_12 rfl h1 dX8_reader_1 ?_
  refine V_iload_n X dX8_reader_4 rfl 1 rfl ?_
  obtain ⟨b1, h2, hP⟩ := hP
  refine V_dr1 h2 ?_
  obtain ⟨h3, hP⟩ := hP
  refine V_callV_r X [.int x1] kw_RX8_104 ki_X5_standing ks_X5_standing ksg_X5_standing (m_X5_standing l G N0 _ _ _ _ hP) h3 (by decide) rfl rfl ⟨Nat.le_of_ble_eq_true rfl, Nat.le_of_ble_eq_true rfl⟩ (Nat.le_of_ble_eq_true rfl) ⟨Nat.le_of_ble_eq_true rfl, Nat.le_of_ble_eq_true rfl⟩ rfl dX8_reader_5 (fun r2 σ2 hP => ?_)
  refine V_ifnonnull X (tgt := 18) dX8_reader_8 (by decide) (fun b3 h4 => ?_) (fun h4 => ?_)
  · have hP := hP.2 b3 h4
    refine V_aload_n X dX8_reader_18 rfl 0 rfl ?_
    obtain ⟨h6, hP⟩ := hP
    refine V_geti X kf_RX8_43 rfl h6 dX8_reader_19 ?_
    refine V_if_lt X (tgt := 37) dX8_reader_22 (by decide) (fun h7 => ?_) (fun h7 => ?_)
    · have hP := hP.1 h7
      refine V_aload_n X dX8_reader_37 rfl 0 rfl ?_
      refine V_bipush X (v := (-5 : Int32)) dX8_reader_38 (by decide) ?_
      refine V_callV_i X [.int (-5 : Int32)] kw_RX8_76 ki_X8_refused ks_X8_refused ksg_X8_refused (m_X8_refused l G N0 _ _ _ _ hP) h6 (by decide) rfl rfl ⟨Nat.le_of_ble_eq_true rfl, Nat.le_of_ble_eq_true rfl⟩ (Nat.le_of_ble_eq_true rfl) ⟨Nat.le_of_ble_eq_true rfl, Nat.le_of_ble_eq_true rfl⟩ rfl dX8_reader_40 (fun r5 σ5 hP => ?_)
      exact V_iret X hr (Or.inl rfl) (Nat.le_of_ble_eq_true rfl) (Nat.le_of_ble_eq_true rfl) dX8_reader_43 ⟨_, rfl, hP⟩
    · have hP := hP.2 h7
      refine V_aload_n X dX8_reader_25 rfl 0 rfl ?_
      refine V_geti X kf_RX8_43 rfl h6 dX8_reader_26 ?_
      refine V_aload_n X dX8_reader_29 rfl 0 rfl ?_
      refine V_getr X kf_RX8_32 rfl h6 dX8_reader_30 ?_
      obtain ⟨b6, h8, hP⟩ := hP
      refine V_dr0 h8 ?_
      obtain ⟨n7, h9, hP⟩ := hP
      refine V_alen X (Or.inr (Or.inr (Or.inl rfl))) h9 dX8_reader_33 ?_
      refine V_icmp_lt X (tgt := 44) dX8_reader_34 (by decide) (fun h10 => ?_) (fun h10 => ?_)
      · have hP := hP.1 h10
        refine V_aload_n X dX8_reader_44 rfl 0 rfl ?_
        refine V_geti X kf_RX8_43 rfl h6 dX8_reader_45 ?_
        refine V_istore_n X (lv' := [(2, .int (gi σ2 a0 5)), (0, .ref a0), (1, .int x1)]) dX8_reader_48 rfl (by decide) rfl ?_
        refine V_aload_n X dX8_reader_49 rfl 1 rfl ?_
        refine V_getr X kf_RX8_32 rfl h6 dX8_reader_50 ?_
        refine V_iload_n X dX8_reader_53 rfl 0 rfl ?_
        refine V_new X (t := 3) kp_RX8_30 (by decide) (by decide) dX8_reader_54 (fun q8 h11 => ?_)
        have hP := hP q8 h11
        have h12 := gk_keep (t := 3) (n := 0) h11 (show gk σ2 a0 = _ from h6)
        have h13 := gk_keep (t := 3) (n := 0) h11 (show gk σ2 b6 = _ from h9)
        have h14 : gk (nw σ2 q8 3 0) q8 = _ := gk_new
        refine V_dup X dX8_reader_57 rfl ?_
        refine V_iload_n X dX8_reader_58 rfl 2 rfl ?_
        refine V_callI_v X [.int x1] kw_RX8_181 ki_X3_init rfl (m_X3_init l G N0 _ _ _ _ hP) rfl ⟨Nat.le_of_ble_eq_true rfl, Nat.le_of_ble_eq_true rfl⟩ (by simp only [List.map_cons, vcat]; exact Nat.le_of_ble_eq_true rfl) ⟨Nat.le_of_ble_eq_true rfl, Nat.le_of_ble_eq_true rfl⟩ rfl dX8_reader_59 (fun σ9 hP => ?_)
        refine V_dr2 h8 ?_
        obtain ⟨n10, h15, hP⟩ := hP
        obtain ⟨h16, hP⟩ := hP
        obtain ⟨h17, hP⟩ := hP
        refine V_aast X (x := (some q8)) (Or.inl ⟨rfl, rfl⟩) h15 h16 (fun v h => ⟨_, by cases h; exact h17⟩) dX8_reader_62 ?_
        refine V_aload_n X dX8_reader_63 rfl 1 rfl ?_
        refine V_iload_n X dX8_reader_64 rfl 0 rfl ?_
        refine V_iconst X (v := (1 : Int32)) dX8_reader_65 (by decide) ?_
        refine V_iadd X dX8_reader_66 ?_
        obtain ⟨h18, hP⟩ := hP
        refine V_puti X kf_RX8_43 (fun h => by cases h) rfl h18 (Or.inl rfl) dX8_reader_67 ?_
        refine V_aload_n X dX8_reader_70 rfl 1 rfl ?_
        refine V_iload_n X dX8_reader_71 rfl 0 rfl ?_
        refine V_callV_i X [.int (gi σ2 a0 5)] kw_RX8_101 ki_X8_answered ks_X8_answered ksg_X8_answered (m_X8_answered l G N0 _ _ _ _ hP) h18 (by decide) rfl rfl ⟨Nat.le_of_ble_eq_true rfl, Nat.le_of_ble_eq_true rfl⟩ (Nat.le_of_ble_eq_true rfl) ⟨Nat.le_of_ble_eq_true rfl, Nat.le_of_ble_eq_true rfl⟩ rfl dX8_reader_72 (fun r11 σ11 hP => ?_)
        exact V_iret X hr (Or.inl rfl) (Nat.le_of_ble_eq_true rfl) (Nat.le_of_ble_eq_true rfl) dX8_reader_75 ⟨_, rfl, hP⟩
      · have hP := hP.2 h10
        refine V_aload_n X dX8_reader_37 rfl 0 rfl ?_
        refine V_bipush X (v := (-5 : Int32)) dX8_reader_38 (by decide) ?_
        refine V_callV_i X [.int (-5 : Int32)] kw_RX8_76 ki_X8_refused ks_X8_refused ksg_X8_refused (m_X8_refused l G N0 _ _ _ _ hP) h6 (by decide) rfl rfl ⟨Nat.le_of_ble_eq_true rfl, Nat.le_of_ble_eq_true rfl⟩ (Nat.le_of_ble_eq_true rfl) ⟨Nat.le_of_ble_eq_true rfl, Nat.le_of_ble_eq_true rfl⟩ rfl dX8_reader_40 (fun r12 σ12 hP => ?_)
        exact V_iret X hr (Or.inl rfl) (Nat.le_of_ble_eq_true rfl) (Nat.le_of_ble_eq_true rfl) dX8_reader_43 ⟨_, rfl, hP⟩
  · have hP := hP.1 h4
    refine V_aload_n X dX8_reader_11 rfl 0 rfl ?_
    refine V_bipush X (v := (-2 : Int32)) dX8_reader_12 (by decide) ?_
    obtain ⟨h5, hP⟩ := hP
    refine V_callV_i X [.int (-2 : Int32)] kw_RX8_76 ki_X8_refused ks_X8_refused ksg_X8_refused (m_X8_refused l G N0 _ _ _ _ hP) h5 (by decide) rfl rfl ⟨Nat.le_of_ble_eq_true rfl, Nat.le_of_ble_eq_true rfl⟩ (Nat.le_of_ble_eq_true rfl) ⟨Nat.le_of_ble_eq_true rfl, Nat.le_of_ble_eq_true rfl⟩ rfl dX8_reader_14 (fun r4 σ4 hP => ?_)
    exact V_iret X hr (Or.inl rfl) (Nat.le_of_ble_eq_true rfl) (Nat.le_of_ble_eq_true rfl) dX8_reader_17 ⟨_, rfl, hP⟩
def P_X8_refer (a0 : Nat) (x1 : Int32) (x2 : Int32) (x3 : Int32) (σ : Hp) (post : Int32 → Hp → Prop) : Prop :=
  (x2 = 0 → gk σ a0 = some (8, 0) ∧ ∃ b1 : Nat, (gr σ a0 0) = some b1 ∧ gk σ b1 = some (5, 0) ∧ P_X5_standing b1 x1 σ (fun (r2 : Option Nat) (σ2 : Hp) => (r2 = none → gk σ2 a0 = some (8, 0) ∧ P_X8_refused a0 (-2 : Int32) σ2 (fun (r4 : Int32) (σ4 : Hp) => post r4 σ4)) ∧ (∀ b3 : Nat, r2 = some b3 → gk σ2 a0 = some (8, 0) ∧ P_X8_canBeReferredTo a0 x3 σ2 (fun (r5 : Int32) (σ5 : Hp) => (¬ r5 = 0 → gk σ5 a0 = some (8, 0) ∧ ∃ b6 : Nat, (gr σ5 a0 1) = some b6 ∧ gk σ5 b6 = some (0, 0) ∧ P_X0_isFull b6 σ5 (fun (r7 : Int32) (σ7 : Hp) => (r7 = 0 → gk σ7 b3 = some (4, 0) ∧ P_X4_withReference b3 x2 x3 σ7 (fun (r8 : Option Nat) (σ8 : Hp) => ∃ b9 : Nat, r8 = some b9 ∧ gk σ8 a0 = some (8, 0) ∧ P_X8_tell a0 b9 σ8 (fun (σ10 : Hp) => gk σ10 a0 = some (8, 0) ∧ P_X8_answered a0 (0 : Int32) σ10 (fun (r11 : Int32) (σ11 : Hp) => post r11 σ11)))) ∧ (¬ (r7 = 0) → gk σ7 a0 = some (8, 0) ∧ P_X8_refused a0 (-5 : Int32) σ7 (fun (r12 : Int32) (σ12 : Hp) => post r12 σ12)))) ∧ (r5 = 0 → gk σ5 a0 = some (8, 0) ∧ P_X8_refused a0 (-2 : Int32) σ5 (fun (r13 : Int32) (σ13 : Hp) => post r13 σ13)))))) ∧ (¬ (x2 = 0) → (x2 = (1 : Int32) → gk σ a0 = some (8, 0) ∧ ∃ b14 : Nat, (gr σ a0 0) = some b14 ∧ gk σ b14 = some (5, 0) ∧ P_X5_standing b14 x1 σ (fun (r15 : Option Nat) (σ15 : Hp) => (r15 = none → gk σ15 a0 = some (8, 0) ∧ P_X8_refused a0 (-2 : Int32) σ15 (fun (r17 : Int32) (σ17 : Hp) => post r17 σ17)) ∧ (∀ b16 : Nat, r15 = some b16 → gk σ15 a0 = some (8, 0) ∧ P_X8_canBeReferredTo a0 x3 σ15 (fun (r18 : Int32) (σ18 : Hp) => (¬ r18 = 0 → gk σ18 a0 = some (8, 0) ∧ ∃ b19 : Nat, (gr σ18 a0 1) = some b19 ∧ gk σ18 b19 = some (0, 0) ∧ P_X0_isFull b19 σ18 (fun (r20 : Int32) (σ20 : Hp) => (r20 = 0 → gk σ20 b16 = some (4, 0) ∧ P_X4_withReference b16 x2 x3 σ20 (fun (r21 : Option Nat) (σ21 : Hp) => ∃ b22 : Nat, r21 = some b22 ∧ gk σ21 a0 = some (8, 0) ∧ P_X8_tell a0 b22 σ21 (fun (σ23 : Hp) => gk σ23 a0 = some (8, 0) ∧ P_X8_answered a0 (0 : Int32) σ23 (fun (r24 : Int32) (σ24 : Hp) => post r24 σ24)))) ∧ (¬ (r20 = 0) → gk σ20 a0 = some (8, 0) ∧ P_X8_refused a0 (-5 : Int32) σ20 (fun (r25 : Int32) (σ25 : Hp) => post r25 σ25)))) ∧ (r18 = 0 → gk σ18 a0 = some (8, 0) ∧ P_X8_refused a0 (-2 : Int32) σ18 (fun (r26 : Int32) (σ26 : Hp) => post r26 σ26)))))) ∧ (¬ (x2 = (1 : Int32)) → gk σ a0 = some (8, 0) ∧ P_X8_refused a0 (-1 : Int32) σ (fun (r27 : Int32) (σ27 : Hp) => post r27 σ27)))
set_option maxHeartbeats 2000000 in
set_option maxRecDepth 100000 in
theorem m_X8_refer (l : Launch) (G : GG) (N0 : Nat) (a0 : Nat) (x1 : Int32) (x2 : Int32) (x3 : Int32) (σ : Hp) (post : Int32 → Hp → Prop) (hP : P_X8_refer a0 x1 x2 x3 σ post) : MM l G N0 yX8_refer cX8_refer 5 (some .int) (3) (68) 1 6 [.ref a0, .int x1, .int x2, .int x3] σ (pI post) := by
  refine MM.of (by decide) (Nat.le_of_ble_eq_true rfl) ?_
  intro p e s m args below meth c X hr hnm
  refine V.to (lv2 := [(0, .ref a0), (1, .int x1), (2, .int x2), (3, .int x3)]) [0, 1, 2, 3] rfl rfl ?_
  unfold P_X8_refer at hP
  refine V_iload_n X dX8_refer_0 rfl 2 rfl ?_
  refine V_if_eq X (tgt := 15) dX8_refer_1 (by decide) (fun h1 => ?_) (fun h1 => ?_)
  · have hP := hP.1 h1
    refine V_aload_n X dX8_refer_15 rfl 0 rfl ?_
    obtain ⟨h2, hP⟩ := hP
    refine V_getr X kf_RX8_12 rfl h2 dX8_refer_16 ?_
    refine V_iload_n X dX8_refer_19 rfl 1 rfl ?_
    obtain ⟨b1, h3, hP⟩ := hP
    refine V_dr1 h3 ?_
    obtain ⟨h4, hP⟩ := hP
    refine V_callV_r X [.int x1] kw_RX8_104 ki_X5_standing ks_X5_standing ksg_X5_standing (m_X5_standing l G N0 _ _ _ _ hP) h4 (by decide) rfl rfl ⟨Nat.le_of_ble_eq_true rfl, Nat.le_of_ble_eq_true rfl⟩ (Nat.le_of_ble_eq_true rfl) ⟨Nat.le_of_ble_eq_true rfl, Nat.le_of_ble_eq_true rfl⟩ rfl dX8_refer_20 (fun r2 σ2 hP => ?_)
    refine V_astorer X (x := r2) (lv' := [(4, va_rf r2), (0, .ref a0), (1, .int x1), (2, .int x2), (3, .int x3)]) dX8_refer_23 (by decide) rfl ?_
    refine V_aloadr X dX8_refer_25 0 rfl ?_
    refine V_ifnull X (tgt := 38) dX8_refer_27 (by decide) (fun h5 => ?_) (fun b3 h5 => ?_)
    · have hP := hP.1 h5
      refine V_aload_n X dX8_refer_38 rfl 1 rfl ?_
      refine V_bipush X (v := (-2 : Int32)) dX8_refer_39 (by decide) ?_
      obtain ⟨h6, hP⟩ := hP
      refine V_callV_i X [.int (-2 : Int32)] kw_RX8_76 ki_X8_refused ks_X8_refused ksg_X8_refused (m_X8_refused l G N0 _ _ _ _ hP) h6 (by decide) rfl rfl ⟨Nat.le_of_ble_eq_true rfl, Nat.le_of_ble_eq_true rfl⟩ (Nat.le_of_ble_eq_true rfl) ⟨Nat.le_of_ble_eq_true rfl, Nat.le_of_ble_eq_true rfl⟩ rfl dX8_refer_41 (fun r4 σ4 hP => ?_)
      exact V_iret X hr (Or.inl rfl) (Nat.le_of_ble_eq_true rfl) (Nat.le_of_ble_eq_true rfl) dX8_refer_44 ⟨_, rfl, hP⟩
    · have hP := hP.2 b3 h5
      refine V_aload_n X dX8_refer_30 rfl 1 rfl ?_
      refine V_iload_n X dX8_refer_31 rfl 4 rfl ?_
      obtain ⟨h7, hP⟩ := hP
      refine V_callV_i X [.int x3] kw_RX8_80 ki_X8_canBeReferredTo ks_X8_canBeReferredTo ksg_X8_canBeReferredTo (m_X8_canBeReferredTo l G N0 _ _ _ _ hP) h7 (by decide) rfl rfl ⟨Nat.le_of_ble_eq_true rfl, Nat.le_of_ble_eq_true rfl⟩ (Nat.le_of_ble_eq_true rfl) ⟨Nat.le_of_ble_eq_true rfl, Nat.le_of_ble_eq_true rfl⟩ rfl dX8_refer_32 (fun r5 σ5 hP => ?_)
      refine V_if_ne X (tgt := 45) dX8_refer_35 (by decide) (fun h8 => ?_) (fun h8 => ?_)
      · have hP := hP.1 h8
        refine V_aload_n X dX8_refer_45 rfl 1 rfl ?_
        obtain ⟨h9, hP⟩ := hP
        refine V_getr X kf_RX8_19 rfl h9 dX8_refer_46 ?_
        obtain ⟨b6, h10, hP⟩ := hP
        refine V_dr0 h10 ?_
        obtain ⟨h11, hP⟩ := hP
        refine V_callV_i X [] kw_RX8_87 ki_X0_isFull ks_X0_isFull ksg_X0_isFull (m_X0_isFull l G N0 _ _ _ hP) h11 (by decide) rfl rfl ⟨Nat.le_of_ble_eq_true rfl, Nat.le_of_ble_eq_true rfl⟩ (Nat.le_of_ble_eq_true rfl) ⟨Nat.le_of_ble_eq_true rfl, Nat.le_of_ble_eq_true rfl⟩ rfl dX8_refer_49 (fun r7 σ7 hP => ?_)
        refine V_if_eq X (tgt := 62) dX8_refer_52 (by decide) (fun h12 => ?_) (fun h12 => ?_)
        · have hP := hP.1 h12
          refine V_aload_n X dX8_refer_62 rfl 1 rfl ?_
          refine V_aloadr X dX8_refer_63 0 rfl ?_
          refine V_iload_n X dX8_refer_65 rfl 3 rfl ?_
          refine V_iload_n X dX8_refer_66 rfl 4 rfl ?_
          refine V_dr2 h5 ?_
          obtain ⟨h13, hP⟩ := hP
          refine V_callV_r X [.int x2, .int x3] kw_RX8_114 ki_X4_withReference ks_X4_withReference ksg_X4_withReference (m_X4_withReference l G N0 _ _ _ _ _ hP) h13 (by decide) rfl rfl ⟨Nat.le_of_ble_eq_true rfl, Nat.le_of_ble_eq_true rfl⟩ (Nat.le_of_ble_eq_true rfl) ⟨Nat.le_of_ble_eq_true rfl, Nat.le_of_ble_eq_true rfl⟩ rfl dX8_refer_67 (fun r8 σ8 hP => ?_)
          obtain ⟨b9, h14, hP⟩ := hP
          refine V_dr0 h14 ?_
          obtain ⟨h15, hP⟩ := hP
          refine V_callV_v X [.ref b9] kw_RX8_97 ki_X8_tell ks_X8_tell ksg_X8_tell (m_X8_tell l G N0 _ _ _ _ hP) h15 (by decide) rfl rfl ⟨Nat.le_of_ble_eq_true rfl, Nat.le_of_ble_eq_true rfl⟩ (Nat.le_of_ble_eq_true rfl) ⟨Nat.le_of_ble_eq_true rfl, Nat.le_of_ble_eq_true rfl⟩ rfl dX8_refer_70 (fun σ10 hP => ?_)
          refine V_aload_n X dX8_refer_73 rfl 1 rfl ?_
          refine V_iconst X (v := (0 : Int32)) dX8_refer_74 (by decide) ?_
          obtain ⟨h16, hP⟩ := hP
          refine V_callV_i X [.int (0 : Int32)] kw_RX8_101 ki_X8_answered ks_X8_answered ksg_X8_answered (m_X8_answered l G N0 _ _ _ _ hP) h16 (by decide) rfl rfl ⟨Nat.le_of_ble_eq_true rfl, Nat.le_of_ble_eq_true rfl⟩ (Nat.le_of_ble_eq_true rfl) ⟨Nat.le_of_ble_eq_true rfl, Nat.le_of_ble_eq_true rfl⟩ rfl dX8_refer_75 (fun r11 σ11 hP => ?_)
          exact V_iret X hr (Or.inl rfl) (Nat.le_of_ble_eq_true rfl) (Nat.le_of_ble_eq_true rfl) dX8_refer_78 ⟨_, rfl, hP⟩
        · have hP := hP.2 h12
          refine V_aload_n X dX8_refer_55 rfl 1 rfl ?_
          refine V_bipush X (v := (-5 : Int32)) dX8_refer_56 (by decide) ?_
          obtain ⟨h17, hP⟩ := hP
          refine V_callV_i X [.int (-5 : Int32)] kw_RX8_76 ki_X8_refused ks_X8_refused ksg_X8_refused (m_X8_refused l G N0 _ _ _ _ hP) h17 (by decide) rfl rfl ⟨Nat.le_of_ble_eq_true rfl, Nat.le_of_ble_eq_true rfl⟩ (Nat.le_of_ble_eq_true rfl) ⟨Nat.le_of_ble_eq_true rfl, Nat.le_of_ble_eq_true rfl⟩ rfl dX8_refer_58 (fun r12 σ12 hP => ?_)
          exact V_iret X hr (Or.inl rfl) (Nat.le_of_ble_eq_true rfl) (Nat.le_of_ble_eq_true rfl) dX8_refer_61 ⟨_, rfl, hP⟩
      · have hP := hP.2 h8
        refine V_aload_n X dX8_refer_38 rfl 1 rfl ?_
        refine V_bipush X (v := (-2 : Int32)) dX8_refer_39 (by decide) ?_
        obtain ⟨h18, hP⟩ := hP
        refine V_callV_i X [.int (-2 : Int32)] kw_RX8_76 ki_X8_refused ks_X8_refused ksg_X8_refused (m_X8_refused l G N0 _ _ _ _ hP) h18 (by decide) rfl rfl ⟨Nat.le_of_ble_eq_true rfl, Nat.le_of_ble_eq_true rfl⟩ (Nat.le_of_ble_eq_true rfl) ⟨Nat.le_of_ble_eq_true rfl, Nat.le_of_ble_eq_true rfl⟩ rfl dX8_refer_41 (fun r13 σ13 hP => ?_)
        exact V_iret X hr (Or.inl rfl) (Nat.le_of_ble_eq_true rfl) (Nat.le_of_ble_eq_true rfl) dX8_refer_44 ⟨_, rfl, hP⟩
  · have hP := hP.2 h1
    refine V_iload_n X dX8_refer_4 rfl 2 rfl ?_
    refine V_iconst X (v := (1 : Int32)) dX8_refer_5 (by decide) ?_
    refine V_icmp_eq X (tgt := 15) dX8_refer_6 (by decide) (fun h19 => ?_) (fun h19 => ?_)
    · have hP := hP.1 h19
      refine V_aload_n X dX8_refer_15 rfl 0 rfl ?_
      obtain ⟨h20, hP⟩ := hP
      refine V_getr X kf_RX8_12 rfl h20 dX8_refer_16 ?_
      refine V_iload_n X dX8_refer_19 rfl 1 rfl ?_
      obtain ⟨b14, h21, hP⟩ := hP
      refine V_dr1 h21 ?_
      obtain ⟨h22, hP⟩ := hP
      refine V_callV_r X [.int x1] kw_RX8_104 ki_X5_standing ks_X5_standing ksg_X5_standing (m_X5_standing l G N0 _ _ _ _ hP) h22 (by decide) rfl rfl ⟨Nat.le_of_ble_eq_true rfl, Nat.le_of_ble_eq_true rfl⟩ (Nat.le_of_ble_eq_true rfl) ⟨Nat.le_of_ble_eq_true rfl, Nat.le_of_ble_eq_true rfl⟩ rfl dX8_refer_20 (fun r15 σ15 hP => ?_)
      refine V_astorer X (x := r15) (lv' := [(4, va_rf r15), (0, .ref a0), (1, .int x1), (2, .int x2), (3, .int x3)]) dX8_refer_23 (by decide) rfl ?_
      refine V_aloadr X dX8_refer_25 0 rfl ?_
      refine V_ifnull X (tgt := 38) dX8_refer_27 (by decide) (fun h23 => ?_) (fun b16 h23 => ?_)
      · have hP := hP.1 h23
        refine V_aload_n X dX8_refer_38 rfl 1 rfl ?_
        refine V_bipush X (v := (-2 : Int32)) dX8_refer_39 (by decide) ?_
        obtain ⟨h24, hP⟩ := hP
        refine V_callV_i X [.int (-2 : Int32)] kw_RX8_76 ki_X8_refused ks_X8_refused ksg_X8_refused (m_X8_refused l G N0 _ _ _ _ hP) h24 (by decide) rfl rfl ⟨Nat.le_of_ble_eq_true rfl, Nat.le_of_ble_eq_true rfl⟩ (Nat.le_of_ble_eq_true rfl) ⟨Nat.le_of_ble_eq_true rfl, Nat.le_of_ble_eq_true rfl⟩ rfl dX8_refer_41 (fun r17 σ17 hP => ?_)
        exact V_iret X hr (Or.inl rfl) (Nat.le_of_ble_eq_true rfl) (Nat.le_of_ble_eq_true rfl) dX8_refer_44 ⟨_, rfl, hP⟩
      · have hP := hP.2 b16 h23
        refine V_aload_n X dX8_refer_30 rfl 1 rfl ?_
        refine V_iload_n X dX8_refer_31 rfl 4 rfl ?_
        obtain ⟨h25, hP⟩ := hP
        refine V_callV_i X [.int x3] kw_RX8_80 ki_X8_canBeReferredTo ks_X8_canBeReferredTo ksg_X8_canBeReferredTo (m_X8_canBeReferredTo l G N0 _ _ _ _ hP) h25 (by decide) rfl rfl ⟨Nat.le_of_ble_eq_true rfl, Nat.le_of_ble_eq_true rfl⟩ (Nat.le_of_ble_eq_true rfl) ⟨Nat.le_of_ble_eq_true rfl, Nat.le_of_ble_eq_true rfl⟩ rfl dX8_refer_32 (fun r18 σ18 hP => ?_)
        refine V_if_ne X (tgt := 45) dX8_refer_35 (by decide) (fun h26 => ?_) (fun h26 => ?_)
        · have hP := hP.1 h26
          refine V_aload_n X dX8_refer_45 rfl 1 rfl ?_
          obtain ⟨h27, hP⟩ := hP
          refine V_getr X kf_RX8_19 rfl h27 dX8_refer_46 ?_
          obtain ⟨b19, h28, hP⟩ := hP
          refine V_dr0 h28 ?_
          obtain ⟨h29, hP⟩ := hP
          refine V_callV_i X [] kw_RX8_87 ki_X0_isFull ks_X0_isFull ksg_X0_isFull (m_X0_isFull l G N0 _ _ _ hP) h29 (by decide) rfl rfl ⟨Nat.le_of_ble_eq_true rfl, Nat.le_of_ble_eq_true rfl⟩ (Nat.le_of_ble_eq_true rfl) ⟨Nat.le_of_ble_eq_true rfl, Nat.le_of_ble_eq_true rfl⟩ rfl dX8_refer_49 (fun r20 σ20 hP => ?_)
          refine V_if_eq X (tgt := 62) dX8_refer_52 (by decide) (fun h30 => ?_) (fun h30 => ?_)
          · have hP := hP.1 h30
            refine V_aload_n X dX8_refer_62 rfl 1 rfl ?_
            refine V_aloadr X dX8_refer_63 0 rfl ?_
            refine V_iload_n X dX8_refer_65 rfl 3 rfl ?_
            refine V_iload_n X dX8_refer_66 rfl 4 rfl ?_
            refine V_dr2 h23 ?_
            obtain ⟨h31, hP⟩ := hP
            refine V_callV_r X [.int x2, .int x3] kw_RX8_114 ki_X4_withReference ks_X4_withReference ksg_X4_withReference (m_X4_withReference l G N0 _ _ _ _ _ hP) h31 (by decide) rfl rfl ⟨Nat.le_of_ble_eq_true rfl, Nat.le_of_ble_eq_true rfl⟩ (Nat.le_of_ble_eq_true rfl) ⟨Nat.le_of_ble_eq_true rfl, Nat.le_of_ble_eq_true rfl⟩ rfl dX8_refer_67 (fun r21 σ21 hP => ?_)
            obtain ⟨b22, h32, hP⟩ := hP
            refine V_dr0 h32 ?_
            obtain ⟨h33, hP⟩ := hP
            refine V_callV_v X [.ref b22] kw_RX8_97 ki_X8_tell ks_X8_tell ksg_X8_tell (m_X8_tell l G N0 _ _ _ _ hP) h33 (by decide) rfl rfl ⟨Nat.le_of_ble_eq_true rfl, Nat.le_of_ble_eq_true rfl⟩ (Nat.le_of_ble_eq_true rfl) ⟨Nat.le_of_ble_eq_true rfl, Nat.le_of_ble_eq_true rfl⟩ rfl dX8_refer_70 (fun σ23 hP => ?_)
            refine V_aload_n X dX8_refer_73 rfl 1 rfl ?_
            refine V_iconst X (v := (0 : Int32)) dX8_refer_74 (by decide) ?_
            obtain ⟨h34, hP⟩ := hP
            refine V_callV_i X [.int (0 : Int32)] kw_RX8_101 ki_X8_answered ks_X8_answered ksg_X8_answered (m_X8_answered l G N0 _ _ _ _ hP) h34 (by decide) rfl rfl ⟨Nat.le_of_ble_eq_true rfl, Nat.le_of_ble_eq_true rfl⟩ (Nat.le_of_ble_eq_true rfl) ⟨Nat.le_of_ble_eq_true rfl, Nat.le_of_ble_eq_true rfl⟩ rfl dX8_refer_75 (fun r24 σ24 hP => ?_)
            exact V_iret X hr (Or.inl rfl) (Nat.le_of_ble_eq_true rfl) (Nat.le_of_ble_eq_true rfl) dX8_refer_78 ⟨_, rfl, hP⟩
          · have hP := hP.2 h30
            refine V_aload_n X dX8_refer_55 rfl 1 rfl ?_
            refine V_bipush X (v := (-5 : Int32)) dX8_refer_56 (by decide) ?_
            obtain ⟨h35, hP⟩ := hP
            refine V_callV_i X [.int (-5 : Int32)] kw_RX8_76 ki_X8_refused ks_X8_refused ksg_X8_refused (m_X8_refused l G N0 _ _ _ _ hP) h35 (by decide) rfl rfl ⟨Nat.le_of_ble_eq_true rfl, Nat.le_of_ble_eq_true rfl⟩ (Nat.le_of_ble_eq_true rfl) ⟨Nat.le_of_ble_eq_true rfl, Nat.le_of_ble_eq_true rfl⟩ rfl dX8_refer_58 (fun r25 σ25 hP => ?_)
            exact V_iret X hr (Or.inl rfl) (Nat.le_of_ble_eq_true rfl) (Nat.le_of_ble_eq_true rfl) dX8_refer_61 ⟨_, rfl, hP⟩
        · have hP := hP.2 h26
          refine V_aload_n X dX8_refer_38 rfl 1 rfl ?_
          refine V_bipush X (v := (-2 : Int32)) dX8_refer_39 (by decide) ?_
          obtain ⟨h36, hP⟩ := hP
          refine V_callV_i X [.int (-2 : Int32)] kw_RX8_76 ki_X8_refused ks_X8_refused ksg_X8_refused (m_X8_refused l G N0 _ _ _ _ hP) h36 (by decide) rfl rfl ⟨Nat.le_of_ble_eq_true rfl, Nat.le_of_ble_eq_true rfl⟩ (Nat.le_of_ble_eq_true rfl) ⟨Nat.le_of_ble_eq_true rfl, Nat.le_of_ble_eq_true rfl⟩ rfl dX8_refer_41 (fun r26 σ26 hP => ?_)
          exact V_iret X hr (Or.inl rfl) (Nat.le_of_ble_eq_true rfl) (Nat.le_of_ble_eq_true rfl) dX8_refer_44 ⟨_, rfl, hP⟩
    · have hP := hP.2 h19
      refine V_aload_n X dX8_refer_9 rfl 0 rfl ?_
      refine V_iconst X (v := (-1 : Int32)) dX8_refer_10 (by decide) ?_
      obtain ⟨h37, hP⟩ := hP
      refine V_callV_i X [.int (-1 : Int32)] kw_RX8_76 ki_X8_refused ks_X8_refused ksg_X8_refused (m_X8_refused l G N0 _ _ _ _ hP) h37 (by decide) rfl rfl ⟨Nat.le_of_ble_eq_true rfl, Nat.le_of_ble_eq_true rfl⟩ (Nat.le_of_ble_eq_true rfl) ⟨Nat.le_of_ble_eq_true rfl, Nat.le_of_ble_eq_true rfl⟩ rfl dX8_refer_11 (fun r27 σ27 hP => ?_)
      exact V_iret X hr (Or.inl rfl) (Nat.le_of_ble_eq_true rfl) (Nat.le_of_ble_eq_true rfl) dX8_refer_14 ⟨_, rfl, hP⟩
def P_X8_row (a0 : Nat) (x1 : Int32) (x2 : Int32) (x3 : Int32) (x4 : Int32) (σ : Hp) (post : Int32 → Hp → Prop) : Prop :=
  (x1 < 0 → gk σ a0 = some (8, 0) ∧ P_X8_refused a0 (-1 : Int32) σ (fun (r1 : Int32) (σ1 : Hp) => post r1 σ1)) ∧ (¬ (x1 < 0) → ((4 : Int32) ≤ x1 → gk σ a0 = some (8, 0) ∧ P_X8_refused a0 (-1 : Int32) σ (fun (r2 : Int32) (σ2 : Hp) => post r2 σ2)) ∧ (¬ ((4 : Int32) ≤ x1) → P_X8_isValue x2 σ (fun (r3 : Int32) (σ3 : Hp) => (¬ r3 = 0 → gk σ3 a0 = some (8, 0) ∧ P_X8_canBeReferredTo a0 x3 σ3 (fun (r4 : Int32) (σ4 : Hp) => (r4 = 0 → gk σ4 a0 = some (8, 0) ∧ P_X8_refused a0 (-2 : Int32) σ4 (fun (r5 : Int32) (σ5 : Hp) => post r5 σ5)) ∧ (¬ (r4 = 0) → gk σ4 a0 = some (8, 0) ∧ P_X8_canBeReferredTo a0 x4 σ4 (fun (r6 : Int32) (σ6 : Hp) => (¬ r6 = 0 → gk σ6 a0 = some (8, 0) ∧ ∃ b7 : Nat, (gr σ6 a0 0) = some b7 ∧ gk σ6 b7 = some (5, 0) ∧ P_X5_isFull b7 σ6 (fun (r8 : Int32) (σ8 : Hp) => (¬ r8 = 0 → gk σ8 a0 = some (8, 0) ∧ P_X8_refused a0 (-5 : Int32) σ8 (fun (r9 : Int32) (σ9 : Hp) => post r9 σ9)) ∧ (r8 = 0 → gk σ8 a0 = some (8, 0) ∧ ∃ b10 : Nat, (gr σ8 a0 1) = some b10 ∧ gk σ8 b10 = some (0, 0) ∧ P_X0_isFull b10 σ8 (fun (r11 : Int32) (σ11 : Hp) => (r11 = 0 → gk σ11 a0 = some (8, 0) ∧ ∃ b12 : Nat, (gr σ11 a0 0) = some b12 ∧ gk σ11 b12 = some (5, 0) ∧ P_X5_known b12 σ11 (fun (r13 : Int32) (σ13 : Hp) => ∀ q14 : Nat, gk σ13 q14 = none → P_X4_init q14 r13 x1 x2 x3 x4 (1 : Int32) (nw σ13 q14 4 0) (fun (σ15 : Hp) => gk σ15 a0 = some (8, 0) ∧ P_X8_tell a0 q14 σ15 (fun (σ16 : Hp) => gk σ16 a0 = some (8, 0) ∧ P_X8_answered a0 r13 σ16 (fun (r17 : Int32) (σ17 : Hp) => post r17 σ17))))) ∧ (¬ (r11 = 0) → gk σ11 a0 = some (8, 0) ∧ P_X8_refused a0 (-5 : Int32) σ11 (fun (r18 : Int32) (σ18 : Hp) => post r18 σ18)))))) ∧ (r6 = 0 → gk σ6 a0 = some (8, 0) ∧ P_X8_refused a0 (-2 : Int32) σ6 (fun (r19 : Int32) (σ19 : Hp) => post r19 σ19)))))) ∧ (r3 = 0 → gk σ3 a0 = some (8, 0) ∧ P_X8_refused a0 (-1 : Int32) σ3 (fun (r20 : Int32) (σ20 : Hp) => post r20 σ20)))))
set_option maxHeartbeats 2000000 in
set_option maxRecDepth 100000 in
theorem m_X8_row (l : Launch) (G : GG) (N0 : Nat) (a0 : Nat) (x1 : Int32) (x2 : Int32) (x3 : Int32) (x4 : Int32) (σ : Hp) (post : Int32 → Hp → Prop) (hP : P_X8_row a0 x1 x2 x3 x4 σ post) : MM l G N0 yX8_row cX8_row 6 (some .int) (3) (68) 1 6 [.ref a0, .int x1, .int x2, .int x3, .int x4] σ (pI post) := by
  refine MM.of (by decide) (Nat.le_of_ble_eq_true rfl) ?_
  intro p e s m args below meth c X hr hnm
  refine V.to (lv2 := [(0, .ref a0), (1, .int x1), (2, .int x2), (3, .int x3), (4, .int x4)]) [0, 1, 2, 3, 4] rfl rfl ?_
  unfold P_X8_row at hP
  refine V_iload_n X dX8_row_0 rfl 1 rfl ?_
  refine V_if_lt X (tgt := 16) dX8_row_1 (by decide) (fun h1 => ?_) (fun h1 => ?_)
  · have hP := hP.1 h1
    refine V_aload_n X dX8_row_16 rfl 0 rfl ?_
    refine V_iconst X (v := (-1 : Int32)) dX8_row_17 (by decide) ?_
    obtain ⟨h2, hP⟩ := hP
    refine V_callV_i X [.int (-1 : Int32)] kw_RX8_76 ki_X8_refused ks_X8_refused ksg_X8_refused (m_X8_refused l G N0 _ _ _ _ hP) h2 (by decide) rfl rfl ⟨Nat.le_of_ble_eq_true rfl, Nat.le_of_ble_eq_true rfl⟩ (Nat.le_of_ble_eq_true rfl) ⟨Nat.le_of_ble_eq_true rfl, Nat.le_of_ble_eq_true rfl⟩ rfl dX8_row_18 (fun r1 σ1 hP => ?_)
    exact V_iret X hr (Or.inl rfl) (Nat.le_of_ble_eq_true rfl) (Nat.le_of_ble_eq_true rfl) dX8_row_21 ⟨_, rfl, hP⟩
  · have hP := hP.2 h1
    refine V_iload_n X dX8_row_4 rfl 1 rfl ?_
    refine V_iconst X (v := (4 : Int32)) dX8_row_5 (by decide) ?_
    refine V_icmp_ge X (tgt := 16) dX8_row_6 (by decide) (fun h3 => ?_) (fun h3 => ?_)
    · have hP := hP.1 h3
      refine V_aload_n X dX8_row_16 rfl 0 rfl ?_
      refine V_iconst X (v := (-1 : Int32)) dX8_row_17 (by decide) ?_
      obtain ⟨h4, hP⟩ := hP
      refine V_callV_i X [.int (-1 : Int32)] kw_RX8_76 ki_X8_refused ks_X8_refused ksg_X8_refused (m_X8_refused l G N0 _ _ _ _ hP) h4 (by decide) rfl rfl ⟨Nat.le_of_ble_eq_true rfl, Nat.le_of_ble_eq_true rfl⟩ (Nat.le_of_ble_eq_true rfl) ⟨Nat.le_of_ble_eq_true rfl, Nat.le_of_ble_eq_true rfl⟩ rfl dX8_row_18 (fun r2 σ2 hP => ?_)
      exact V_iret X hr (Or.inl rfl) (Nat.le_of_ble_eq_true rfl) (Nat.le_of_ble_eq_true rfl) dX8_row_21 ⟨_, rfl, hP⟩
    · have hP := hP.2 h3
      refine V_iload_n X dX8_row_9 rfl 2 rfl ?_
      refine V_callS_i X [.int x2] kw_RX8_72 ki_X8_isValue (m_X8_isValue l G N0 _ _ _ hP) rfl ⟨Nat.le_of_ble_eq_true rfl, Nat.le_of_ble_eq_true rfl⟩ (Nat.le_of_ble_eq_true rfl) ⟨Nat.le_of_ble_eq_true rfl, Nat.le_of_ble_eq_true rfl⟩ rfl dX8_row_10 (fun r3 σ3 hP => ?_)
      refine V_if_ne X (tgt := 22) dX8_row_13 (by decide) (fun h5 => ?_) (fun h5 => ?_)
      · have hP := hP.1 h5
        refine V_aload_n X dX8_row_22 rfl 0 rfl ?_
        refine V_iload_n X dX8_row_23 rfl 3 rfl ?_
        obtain ⟨h6, hP⟩ := hP
        refine V_callV_i X [.int x3] kw_RX8_80 ki_X8_canBeReferredTo ks_X8_canBeReferredTo ksg_X8_canBeReferredTo (m_X8_canBeReferredTo l G N0 _ _ _ _ hP) h6 (by decide) rfl rfl ⟨Nat.le_of_ble_eq_true rfl, Nat.le_of_ble_eq_true rfl⟩ (Nat.le_of_ble_eq_true rfl) ⟨Nat.le_of_ble_eq_true rfl, Nat.le_of_ble_eq_true rfl⟩ rfl dX8_row_24 (fun r4 σ4 hP => ?_)
        refine V_if_eq X (tgt := 39) dX8_row_27 (by decide) (fun h7 => ?_) (fun h7 => ?_)
        · have hP := hP.1 h7
          refine V_aload_n X dX8_row_39 rfl 0 rfl ?_
          refine V_bipush X (v := (-2 : Int32)) dX8_row_40 (by decide) ?_
          obtain ⟨h8, hP⟩ := hP
          refine V_callV_i X [.int (-2 : Int32)] kw_RX8_76 ki_X8_refused ks_X8_refused ksg_X8_refused (m_X8_refused l G N0 _ _ _ _ hP) h8 (by decide) rfl rfl ⟨Nat.le_of_ble_eq_true rfl, Nat.le_of_ble_eq_true rfl⟩ (Nat.le_of_ble_eq_true rfl) ⟨Nat.le_of_ble_eq_true rfl, Nat.le_of_ble_eq_true rfl⟩ rfl dX8_row_42 (fun r5 σ5 hP => ?_)
          exact V_iret X hr (Or.inl rfl) (Nat.le_of_ble_eq_true rfl) (Nat.le_of_ble_eq_true rfl) dX8_row_45 ⟨_, rfl, hP⟩
        · have hP := hP.2 h7
          refine V_aload_n X dX8_row_30 rfl 0 rfl ?_
          refine V_iload X dX8_row_31 4 rfl ?_
          obtain ⟨h9, hP⟩ := hP
          refine V_callV_i X [.int x4] kw_RX8_80 ki_X8_canBeReferredTo ks_X8_canBeReferredTo ksg_X8_canBeReferredTo (m_X8_canBeReferredTo l G N0 _ _ _ _ hP) h9 (by decide) rfl rfl ⟨Nat.le_of_ble_eq_true rfl, Nat.le_of_ble_eq_true rfl⟩ (Nat.le_of_ble_eq_true rfl) ⟨Nat.le_of_ble_eq_true rfl, Nat.le_of_ble_eq_true rfl⟩ rfl dX8_row_33 (fun r6 σ6 hP => ?_)
          refine V_if_ne X (tgt := 46) dX8_row_36 (by decide) (fun h10 => ?_) (fun h10 => ?_)
          · have hP := hP.1 h10
            refine V_aload_n X dX8_row_46 rfl 0 rfl ?_
            obtain ⟨h11, hP⟩ := hP
            refine V_getr X kf_RX8_12 rfl h11 dX8_row_47 ?_
            obtain ⟨b7, h12, hP⟩ := hP
            refine V_dr0 h12 ?_
            obtain ⟨h13, hP⟩ := hP
            refine V_callV_i X [] kw_RX8_83 ki_X5_isFull ks_X5_isFull ksg_X5_isFull (m_X5_isFull l G N0 _ _ _ hP) h13 (by decide) rfl rfl ⟨Nat.le_of_ble_eq_true rfl, Nat.le_of_ble_eq_true rfl⟩ (Nat.le_of_ble_eq_true rfl) ⟨Nat.le_of_ble_eq_true rfl, Nat.le_of_ble_eq_true rfl⟩ rfl dX8_row_50 (fun r8 σ8 hP => ?_)
            refine V_if_ne X (tgt := 66) dX8_row_53 (by decide) (fun h14 => ?_) (fun h14 => ?_)
            · have hP := hP.1 h14
              refine V_aload_n X dX8_row_66 rfl 0 rfl ?_
              refine V_bipush X (v := (-5 : Int32)) dX8_row_67 (by decide) ?_
              obtain ⟨h15, hP⟩ := hP
              refine V_callV_i X [.int (-5 : Int32)] kw_RX8_76 ki_X8_refused ks_X8_refused ksg_X8_refused (m_X8_refused l G N0 _ _ _ _ hP) h15 (by decide) rfl rfl ⟨Nat.le_of_ble_eq_true rfl, Nat.le_of_ble_eq_true rfl⟩ (Nat.le_of_ble_eq_true rfl) ⟨Nat.le_of_ble_eq_true rfl, Nat.le_of_ble_eq_true rfl⟩ rfl dX8_row_69 (fun r9 σ9 hP => ?_)
              exact V_iret X hr (Or.inl rfl) (Nat.le_of_ble_eq_true rfl) (Nat.le_of_ble_eq_true rfl) dX8_row_72 ⟨_, rfl, hP⟩
            · have hP := hP.2 h14
              refine V_aload_n X dX8_row_56 rfl 0 rfl ?_
              obtain ⟨h16, hP⟩ := hP
              refine V_getr X kf_RX8_19 rfl h16 dX8_row_57 ?_
              obtain ⟨b10, h17, hP⟩ := hP
              refine V_dr0 h17 ?_
              obtain ⟨h18, hP⟩ := hP
              refine V_callV_i X [] kw_RX8_87 ki_X0_isFull ks_X0_isFull ksg_X0_isFull (m_X0_isFull l G N0 _ _ _ hP) h18 (by decide) rfl rfl ⟨Nat.le_of_ble_eq_true rfl, Nat.le_of_ble_eq_true rfl⟩ (Nat.le_of_ble_eq_true rfl) ⟨Nat.le_of_ble_eq_true rfl, Nat.le_of_ble_eq_true rfl⟩ rfl dX8_row_60 (fun r11 σ11 hP => ?_)
              refine V_if_eq X (tgt := 73) dX8_row_63 (by decide) (fun h19 => ?_) (fun h19 => ?_)
              · have hP := hP.1 h19
                refine V_aload_n X dX8_row_73 rfl 0 rfl ?_
                obtain ⟨h20, hP⟩ := hP
                refine V_getr X kf_RX8_12 rfl h20 dX8_row_74 ?_
                obtain ⟨b12, h21, hP⟩ := hP
                refine V_dr0 h21 ?_
                obtain ⟨h22, hP⟩ := hP
                refine V_callV_i X [] kw_RX8_88 ki_X5_known ks_X5_known ksg_X5_known (m_X5_known l G N0 _ _ _ hP) h22 (by decide) rfl rfl ⟨Nat.le_of_ble_eq_true rfl, Nat.le_of_ble_eq_true rfl⟩ (Nat.le_of_ble_eq_true rfl) ⟨Nat.le_of_ble_eq_true rfl, Nat.le_of_ble_eq_true rfl⟩ rfl dX8_row_77 (fun r13 σ13 hP => ?_)
                refine V_istore X (lv' := [(5, .int r13), (0, .ref a0), (1, .int x1), (2, .int x2), (3, .int x3), (4, .int x4)]) dX8_row_80 (by decide) rfl ?_
                refine V_aload_n X dX8_row_82 rfl 1 rfl ?_
                refine V_new X (t := 4) kp_RX8_92 (by decide) (by decide) dX8_row_83 (fun q14 h23 => ?_)
                have hP := hP q14 h23
                have h24 : gk (nw σ13 q14 4 0) q14 = _ := gk_new
                refine V_dup X dX8_row_86 rfl ?_
                refine V_iload X dX8_row_87 0 rfl ?_
                refine V_iload_n X dX8_row_89 rfl 2 rfl ?_
                refine V_iload_n X dX8_row_90 rfl 3 rfl ?_
                refine V_iload_n X dX8_row_91 rfl 4 rfl ?_
                refine V_iload X dX8_row_92 5 rfl ?_
                refine V_iconst X (v := (1 : Int32)) dX8_row_94 (by decide) ?_
                refine V_callI_v X [.int r13, .int x1, .int x2, .int x3, .int x4, .int (1 : Int32)] kw_RX8_94 ki_X4_init rfl (m_X4_init l G N0 _ _ _ _ _ _ _ _ _ hP) rfl ⟨Nat.le_of_ble_eq_true rfl, Nat.le_of_ble_eq_true rfl⟩ (Nat.le_of_ble_eq_true rfl) ⟨Nat.le_of_ble_eq_true rfl, Nat.le_of_ble_eq_true rfl⟩ rfl dX8_row_95 (fun σ15 hP => ?_)
                obtain ⟨h25, hP⟩ := hP
                refine V_callV_v X [.ref q14] kw_RX8_97 ki_X8_tell ks_X8_tell ksg_X8_tell (m_X8_tell l G N0 _ _ _ _ hP) h25 (by decide) rfl rfl ⟨Nat.le_of_ble_eq_true rfl, Nat.le_of_ble_eq_true rfl⟩ (Nat.le_of_ble_eq_true rfl) ⟨Nat.le_of_ble_eq_true rfl, Nat.le_of_ble_eq_true rfl⟩ rfl dX8_row_98 (fun σ16 hP => ?_)
                refine V_aload_n X dX8_row_101 rfl 1 rfl ?_
                refine V_iload X dX8_row_102 0 rfl ?_
                obtain ⟨h26, hP⟩ := hP
                refine V_callV_i X [.int r13] kw_RX8_101 ki_X8_answered ks_X8_answered ksg_X8_answered (m_X8_answered l G N0 _ _ _ _ hP) h26 (by decide) rfl rfl ⟨Nat.le_of_ble_eq_true rfl, Nat.le_of_ble_eq_true rfl⟩ (Nat.le_of_ble_eq_true rfl) ⟨Nat.le_of_ble_eq_true rfl, Nat.le_of_ble_eq_true rfl⟩ rfl dX8_row_104 (fun r17 σ17 hP => ?_)
                exact V_iret X hr (Or.inl rfl) (Nat.le_of_ble_eq_true rfl) (Nat.le_of_ble_eq_true rfl) dX8_row_107 ⟨_, rfl, hP⟩
              · have hP := hP.2 h19
                refine V_aload_n X dX8_row_66 rfl 0 rfl ?_
                refine V_bipush X (v := (-5 : Int32)) dX8_row_67 (by decide) ?_
                obtain ⟨h27, hP⟩ := hP
                refine V_callV_i X [.int (-5 : Int32)] kw_RX8_76 ki_X8_refused ks_X8_refused ksg_X8_refused (m_X8_refused l G N0 _ _ _ _ hP) h27 (by decide) rfl rfl ⟨Nat.le_of_ble_eq_true rfl, Nat.le_of_ble_eq_true rfl⟩ (Nat.le_of_ble_eq_true rfl) ⟨Nat.le_of_ble_eq_true rfl, Nat.le_of_ble_eq_true rfl⟩ rfl dX8_row_69 (fun r18 σ18 hP => ?_)
                exact V_iret X hr (Or.inl rfl) (Nat.le_of_ble_eq_true rfl) (Nat.le_of_ble_eq_true rfl) dX8_row_72 ⟨_, rfl, hP⟩
          · have hP := hP.2 h10
            refine V_aload_n X dX8_row_39 rfl 0 rfl ?_
            refine V_bipush X (v := (-2 : Int32)) dX8_row_40 (by decide) ?_
            obtain ⟨h28, hP⟩ := hP
            refine V_callV_i X [.int (-2 : Int32)] kw_RX8_76 ki_X8_refused ks_X8_refused ksg_X8_refused (m_X8_refused l G N0 _ _ _ _ hP) h28 (by decide) rfl rfl ⟨Nat.le_of_ble_eq_true rfl, Nat.le_of_ble_eq_true rfl⟩ (Nat.le_of_ble_eq_true rfl) ⟨Nat.le_of_ble_eq_true rfl, Nat.le_of_ble_eq_true rfl⟩ rfl dX8_row_42 (fun r19 σ19 hP => ?_)
            exact V_iret X hr (Or.inl rfl) (Nat.le_of_ble_eq_true rfl) (Nat.le_of_ble_eq_true rfl) dX8_row_45 ⟨_, rfl, hP⟩
      · have hP := hP.2 h5
        refine V_aload_n X dX8_row_16 rfl 0 rfl ?_
        refine V_iconst X (v := (-1 : Int32)) dX8_row_17 (by decide) ?_
        obtain ⟨h29, hP⟩ := hP
        refine V_callV_i X [.int (-1 : Int32)] kw_RX8_76 ki_X8_refused ks_X8_refused ksg_X8_refused (m_X8_refused l G N0 _ _ _ _ hP) h29 (by decide) rfl rfl ⟨Nat.le_of_ble_eq_true rfl, Nat.le_of_ble_eq_true rfl⟩ (Nat.le_of_ble_eq_true rfl) ⟨Nat.le_of_ble_eq_true rfl, Nat.le_of_ble_eq_true rfl⟩ rfl dX8_row_18 (fun r20 σ20 hP => ?_)
        exact V_iret X hr (Or.inl rfl) (Nat.le_of_ble_eq_true rfl) (Nat.le_of_ble_eq_true rfl) dX8_row_21 ⟨_, rfl, hP⟩
def P_X8_same (a0 : Nat) (x1 : Int32) (σ : Hp) (post : Int32 → Hp → Prop) : Prop :=
  gk σ a0 = some (8, 0) ∧ P_X8_readerAt a0 x1 σ (fun (r1 : Option Nat) (σ1 : Hp) => (r1 = none → post (-1 : Int32) σ1) ∧ (∀ b2 : Nat, r1 = some b2 → gk σ1 a0 = some (8, 0) ∧ gk σ1 b2 = some (3, 0) ∧ ∃ b3 : Nat, (gr σ1 a0 0) = some b3 ∧ ∃ b4 : Nat, (gr σ1 a0 4) = some b4 ∧ ∃ b5 : Nat, (gr σ1 a0 11) = some b5 ∧ gk σ1 b5 = some (1, 0) ∧ P_X1_gather b5 b4 b3 (gi σ1 b2 0) σ1 (fun (σ6 : Hp) => gk σ6 a0 = some (8, 0) ∧ gk σ6 b2 = some (3, 0) ∧ ∃ b7 : Nat, (gr σ6 b2 1) = some b7 ∧ ∃ b8 : Nat, (gr σ6 a0 11) = some b8 ∧ gk σ6 b8 = some (1, 0) ∧ P_X1_hasMarksOf b8 b7 σ6 (fun (r9 : Int32) (σ9 : Hp) => (r9 = 0 → post (0 : Int32) σ9) ∧ (¬ (r9 = 0) → post (1 : Int32) σ9)))))
set_option maxHeartbeats 2000000 in
set_option maxRecDepth 100000 in
theorem m_X8_same (l : Launch) (G : GG) (N0 : Nat) (a0 : Nat) (x1 : Int32) (σ : Hp) (post : Int32 → Hp → Prop) (hP : P_X8_same a0 x1 σ post) : MM l G N0 yX8_same cX8_same 3 (some .int) (40) (1156) 0 0 [.ref a0, .int x1] σ (pI post) := by
  refine MM.of (by decide) (Nat.le_of_ble_eq_true rfl) ?_
  intro p e s m args below meth c X hr hnm
  refine V.to (lv2 := [(0, .ref a0), (1, .int x1)]) [0, 1] rfl rfl ?_
  unfold P_X8_same at hP
  refine V_aload_n X dX8_same_0 rfl 0 rfl ?_
  refine V_iload_n X dX8_same_1 rfl 1 rfl ?_
  obtain ⟨h1, hP⟩ := hP
  refine V_callV_r X [.int x1] kw_RX8_197 ki_X8_readerAt ks_X8_readerAt ksg_X8_readerAt (m_X8_readerAt l G N0 _ _ _ _ hP) h1 (by decide) rfl rfl ⟨Nat.le_of_ble_eq_true rfl, Nat.le_of_ble_eq_true rfl⟩ (Nat.le_of_ble_eq_true rfl) ⟨Nat.le_of_ble_eq_true rfl, Nat.le_of_ble_eq_true rfl⟩ rfl dX8_same_2 (fun r1 σ1 hP => ?_)
  refine V_astore_nr X (x := r1) (lv' := [(2, va_rf r1), (0, .ref a0), (1, .int x1)]) dX8_same_5 rfl (by decide) rfl ?_
  refine V_aload_nr X dX8_same_6 rfl 0 rfl ?_
  refine V_ifnonnull X (tgt := 12) dX8_same_7 (by decide) (fun b2 h2 => ?_) (fun h2 => ?_)
  · have hP := hP.2 b2 h2
    refine V_aload_n X dX8_same_12 rfl 1 rfl ?_
    obtain ⟨h3, hP⟩ := hP
    refine V_getr X kf_RX8_65 rfl h3 dX8_same_13 ?_
    refine V_aload_n X dX8_same_16 rfl 1 rfl ?_
    refine V_getr X kf_RX8_39 rfl h3 dX8_same_17 ?_
    refine V_aload_n X dX8_same_20 rfl 1 rfl ?_
    refine V_getr X kf_RX8_12 rfl h3 dX8_same_21 ?_
    refine V_aload_nr X dX8_same_24 rfl 0 rfl ?_
    refine V_dr0 h2 ?_
    obtain ⟨h4, hP⟩ := hP
    refine V_geti X kf_RX8_183 rfl h4 dX8_same_25 ?_
    obtain ⟨b3, h5, hP⟩ := hP
    refine V_dr1 h5 ?_
    obtain ⟨b4, h6, hP⟩ := hP
    refine V_dr2 h6 ?_
    obtain ⟨b5, h7, hP⟩ := hP
    refine V_dr3 h7 ?_
    obtain ⟨h8, hP⟩ := hP
    refine V_callV_v X [.ref b4, .ref b3, .int (gi σ1 b2 0)] kw_RX8_165 ki_X1_gather ks_X1_gather ksg_X1_gather (m_X1_gather l G N0 _ _ _ _ _ _ hP) h8 (by decide) rfl rfl ⟨Nat.le_of_ble_eq_true rfl, Nat.le_of_ble_eq_true rfl⟩ (Nat.le_of_ble_eq_true rfl) ⟨Nat.le_of_ble_eq_true rfl, Nat.le_of_ble_eq_true rfl⟩ rfl dX8_same_28 (fun σ6 hP => ?_)
    refine V_aload_n X dX8_same_31 rfl 1 rfl ?_
    obtain ⟨h9, hP⟩ := hP
    refine V_getr X kf_RX8_65 rfl h9 dX8_same_32 ?_
    refine V_aload_nr X dX8_same_35 rfl 0 rfl ?_
    refine V_dr0 h2 ?_
    obtain ⟨h10, hP⟩ := hP
    refine V_getr X kf_RX8_186 rfl h10 dX8_same_36 ?_
    obtain ⟨b7, h11, hP⟩ := hP
    refine V_dr0 h11 ?_
    obtain ⟨b8, h12, hP⟩ := hP
    refine V_dr1 h12 ?_
    obtain ⟨h13, hP⟩ := hP
    refine V_callV_i X [.ref b7] kw_RX8_189 ki_X1_hasMarksOf ks_X1_hasMarksOf ksg_X1_hasMarksOf (m_X1_hasMarksOf l G N0 _ _ _ _ hP) h13 (by decide) rfl rfl ⟨Nat.le_of_ble_eq_true rfl, Nat.le_of_ble_eq_true rfl⟩ (Nat.le_of_ble_eq_true rfl) ⟨Nat.le_of_ble_eq_true rfl, Nat.le_of_ble_eq_true rfl⟩ rfl dX8_same_39 (fun r9 σ9 hP => ?_)
    refine V_if_eq X (tgt := 49) dX8_same_42 (by decide) (fun h14 => ?_) (fun h14 => ?_)
    · have hP := hP.1 h14
      refine V_iconst X (v := (0 : Int32)) dX8_same_49 (by decide) ?_
      exact V_iret X hr (Or.inl rfl) (Nat.le_of_ble_eq_true rfl) (Nat.le_of_ble_eq_true rfl) dX8_same_50 ⟨_, rfl, hP⟩
    · have hP := hP.2 h14
      refine V_iconst X (v := (1 : Int32)) dX8_same_45 (by decide) ?_
      refine V_goto X (tgt := 50) dX8_same_46 (by decide) ?_
      exact V_iret X hr (Or.inl rfl) (Nat.le_of_ble_eq_true rfl) (Nat.le_of_ble_eq_true rfl) dX8_same_50 ⟨_, rfl, hP⟩
  · have hP := hP.1 h2
    refine V_iconst X (v := (-1 : Int32)) dX8_same_10 (by decide) ?_
    exact V_iret X hr (Or.inl rfl) (Nat.le_of_ble_eq_true rfl) (Nat.le_of_ble_eq_true rfl) dX8_same_11 ⟨_, rfl, hP⟩
def F_X8_send_4 (a0 : Nat) (post : Int32 → Hp → Prop) (I4 : Int32 → Int32 → Hp → Prop) (v1 : Int32) (v2 : Int32) (σ4 : Hp) : Prop :=
  gk σ4 a0 = some (8, 0) ∧ ∃ b401 : Nat, (gr σ4 a0 3) = some b401 ∧ ∃ n402 : Nat, gk σ4 b401 = some (12, n402) ∧ ((Int32.ofNat n402) ≤ v2 → post v1 σ4) ∧ (¬ ((Int32.ofNat n402) ≤ v2) → vp_in v2 n402 ∧ ((gr σ4 b401 (Int32.toNatClampNeg v2)) = none → I4 v1 (v2 + (1 : Int32)) σ4) ∧ (∀ b403 : Nat, (gr σ4 b401 (Int32.toNatClampNeg v2)) = some b403 → gk σ4 b403 = some (3, 0) ∧ ∃ b404 : Nat, (gr σ4 a0 0) = some b404 ∧ ∃ b405 : Nat, (gr σ4 a0 4) = some b405 ∧ ∃ b406 : Nat, (gr σ4 a0 11) = some b406 ∧ gk σ4 b406 = some (1, 0) ∧ P_X1_gather b406 b405 b404 (gi σ4 b403 0) σ4 (fun (σ407 : Hp) => gk σ407 a0 = some (8, 0) ∧ gk σ407 b403 = some (3, 0) ∧ ∃ b408 : Nat, (gr σ407 b403 1) = some b408 ∧ ∃ b409 : Nat, (gr σ407 a0 11) = some b409 ∧ gk σ407 b409 = some (1, 0) ∧ P_X1_hasMarksOf b409 b408 σ407 (fun (r410 : Int32) (σ410 : Hp) => (¬ r410 = 0 → I4 v1 (v2 + (1 : Int32)) σ410) ∧ (r410 = 0 → gk σ410 b403 = some (3, 0) ∧ gk σ410 a0 = some (8, 0) ∧ ∃ b411 : Nat, (gr σ410 a0 11) = some b411 ∧ ∃ b412 : Nat, (gr σ410 b403 1) = some b412 ∧ gk σ410 b412 = some (1, 0) ∧ P_X1_takeFrom b412 b411 σ410 (fun (σ413 : Hp) => gk σ413 a0 = some (8, 0) ∧ I4 (v1 ||| ((1 : Int32) <<< (v2 &&& 31))) (v2 + (1 : Int32)) (si σ413 a0 6 ((gi σ413 a0 6) + (1 : Int32)))))))))
def P_X8_send (a0 : Nat) (σ : Hp) (post : Int32 → Hp → Prop) : Prop :=
  lfp2 (F_X8_send_4 a0 post) (0 : Int32) (0 : Int32) σ
set_option maxHeartbeats 2000000 in
set_option maxRecDepth 100000 in
theorem m_X8_send (l : Launch) (G : GG) (N0 : Nat) (a0 : Nat) (σ : Hp) (post : Int32 → Hp → Prop) (hP : P_X8_send a0 σ post) : MM l G N0 yX8_send cX8_send 4 (some .int) (40) (1156) 0 0 [.ref a0] σ (pI post) := by
  refine MM.of (by decide) (Nat.le_of_ble_eq_true rfl) ?_
  intro p e s m args below meth c X hr hnm
  refine V.to (lv2 := [(0, .ref a0)]) [0] rfl rfl ?_
  unfold P_X8_send at hP
  refine V_iconst X (v := (0 : Int32)) dX8_send_0 (by decide) ?_
  refine V_istore_n X (lv' := [(1, .int (0 : Int32)), (0, .ref a0)]) dX8_send_1 rfl (by decide) rfl ?_
  refine V_iconst X (v := (0 : Int32)) dX8_send_2 (by decide) ?_
  refine V_istore_n X (lv' := [(2, .int (0 : Int32)), (1, .int (0 : Int32)), (0, .ref a0)]) dX8_send_3 rfl (by decide) rfl ?_
  refine V.to (lv2 := [(0, .ref a0), (1, .int (0 : Int32)), (2, .int (0 : Int32))]) [2, 1, 0] rfl rfl ?_
  refine lfp2_use (fun v1 v2 σ4 => V p l e { frames := 40, cells := 0, slots := 0, locals := 1156 } s m args below meth c (MQ below (QC G N0 (pI post)) args s 0 0 (AN N0)) G N0 4 σ4 0 0 4 [(0, .ref a0), (1, .int v1), (2, .int v2)] []) hP ?_
  intro v1 v2 σ4 hP
  unfold F_X8_send_4 at hP
  refine V_iload_n X dX8_send_4 rfl 2 rfl ?_
  refine V_aload_n X dX8_send_5 rfl 0 rfl ?_
  obtain ⟨h4001, hP⟩ := hP
  refine V_getr X kf_RX8_32 rfl h4001 dX8_send_6 ?_
  obtain ⟨b401, h4002, hP⟩ := hP
  refine V_dr0 h4002 ?_
  obtain ⟨n402, h4003, hP⟩ := hP
  refine V_alen X (Or.inr (Or.inr (Or.inl rfl))) h4003 dX8_send_9 ?_
  refine V_icmp_ge X (tgt := 93) dX8_send_10 (by decide) (fun h4004 => ?_) (fun h4004 => ?_)
  · have hP := hP.1 h4004
    refine V_iload_n X dX8_send_93 rfl 1 rfl ?_
    exact V_iret X hr (Or.inl rfl) (Nat.le_of_ble_eq_true rfl) (Nat.le_of_ble_eq_true rfl) dX8_send_94 ⟨_, rfl, hP⟩
  · have hP := hP.2 h4004
    refine V_aload_n X dX8_send_13 rfl 0 rfl ?_
    refine V_getr X kf_RX8_32 rfl h4001 dX8_send_14 ?_
    refine V_iload_n X dX8_send_17 rfl 2 rfl ?_
    refine V_dr1 h4002 ?_
    obtain ⟨h4005, hP⟩ := hP
    refine V_aald X (Or.inl rfl) h4003 h4005 dX8_send_18 ?_
    refine V_astore_nr X (x := (gr σ4 b401 (Int32.toNatClampNeg v2))) (lv' := [(3, va_rf (gr σ4 b401 (Int32.toNatClampNeg v2))), (0, .ref a0), (1, .int v1), (2, .int v2)]) dX8_send_19 rfl (by decide) rfl ?_
    refine V_aload_nr X dX8_send_20 rfl 0 rfl ?_
    refine V_ifnonnull X (tgt := 27) dX8_send_21 (by decide) (fun b403 h4006 => ?_) (fun h4006 => ?_)
    · have hP := hP.2 b403 h4006
      refine V_aload_n X dX8_send_27 rfl 1 rfl ?_
      refine V_getr X kf_RX8_65 rfl h4001 dX8_send_28 ?_
      refine V_aload_n X dX8_send_31 rfl 1 rfl ?_
      refine V_getr X kf_RX8_39 rfl h4001 dX8_send_32 ?_
      refine V_aload_n X dX8_send_35 rfl 1 rfl ?_
      refine V_getr X kf_RX8_12 rfl h4001 dX8_send_36 ?_
      refine V_aload_nr X dX8_send_39 rfl 0 rfl ?_
      refine V_dr0 h4006 ?_
      obtain ⟨h4007, hP⟩ := hP
      refine V_geti X kf_RX8_183 rfl h4007 dX8_send_40 ?_
      obtain ⟨b404, h4008, hP⟩ := hP
      refine V_dr1 h4008 ?_
      obtain ⟨b405, h4009, hP⟩ := hP
      refine V_dr2 h4009 ?_
      obtain ⟨b406, h4010, hP⟩ := hP
      refine V_dr3 h4010 ?_
      obtain ⟨h4011, hP⟩ := hP
      refine V_callV_v X [.ref b405, .ref b404, .int (gi σ4 b403 0)] kw_RX8_165 ki_X1_gather ks_X1_gather ksg_X1_gather (m_X1_gather l G N0 _ _ _ _ _ _ hP) h4011 (by decide) rfl rfl ⟨Nat.le_of_ble_eq_true rfl, Nat.le_of_ble_eq_true rfl⟩ (Nat.le_of_ble_eq_true rfl) ⟨Nat.le_of_ble_eq_true rfl, Nat.le_of_ble_eq_true rfl⟩ rfl dX8_send_43 (fun σ407 hP => ?_)
      refine V_aload_n X dX8_send_46 rfl 1 rfl ?_
      obtain ⟨h4012, hP⟩ := hP
      refine V_getr X kf_RX8_65 rfl h4012 dX8_send_47 ?_
      refine V_aload_nr X dX8_send_50 rfl 0 rfl ?_
      refine V_dr0 h4006 ?_
      obtain ⟨h4013, hP⟩ := hP
      refine V_getr X kf_RX8_186 rfl h4013 dX8_send_51 ?_
      obtain ⟨b408, h4014, hP⟩ := hP
      refine V_dr0 h4014 ?_
      obtain ⟨b409, h4015, hP⟩ := hP
      refine V_dr1 h4015 ?_
      obtain ⟨h4016, hP⟩ := hP
      refine V_callV_i X [.ref b408] kw_RX8_189 ki_X1_hasMarksOf ks_X1_hasMarksOf ksg_X1_hasMarksOf (m_X1_hasMarksOf l G N0 _ _ _ _ hP) h4016 (by decide) rfl rfl ⟨Nat.le_of_ble_eq_true rfl, Nat.le_of_ble_eq_true rfl⟩ (Nat.le_of_ble_eq_true rfl) ⟨Nat.le_of_ble_eq_true rfl, Nat.le_of_ble_eq_true rfl⟩ rfl dX8_send_54 (fun r410 σ410 hP => ?_)
      refine V_if_ne X (tgt := 87) dX8_send_57 (by decide) (fun h4017 => ?_) (fun h4017 => ?_)
      · have hP := hP.1 h4017
        refine V_iinc X (v := (v2 + (1 : Int32))) (lv' := [(2, .int (v2 + (1 : Int32))), (3, va_rf (gr σ4 b401 (Int32.toNatClampNeg v2))), (0, .ref a0), (1, .int v1)]) dX8_send_87 3 rfl rfl (by decide) rfl ?_
        refine V_goto X (tgt := 4) dX8_send_90 (by decide) ?_
        exact V.to [2, 3, 0] rfl rfl hP
      · have hP := hP.2 h4017
        refine V_aload_nr X dX8_send_60 rfl 0 rfl ?_
        refine V_dr0 h4006 ?_
        obtain ⟨h4018, hP⟩ := hP
        refine V_getr X kf_RX8_186 rfl h4018 dX8_send_61 ?_
        refine V_aload_n X dX8_send_64 rfl 1 rfl ?_
        obtain ⟨h4019, hP⟩ := hP
        refine V_getr X kf_RX8_65 rfl h4019 dX8_send_65 ?_
        obtain ⟨b411, h4020, hP⟩ := hP
        refine V_dr0 h4020 ?_
        obtain ⟨b412, h4021, hP⟩ := hP
        refine V_dr1 h4021 ?_
        obtain ⟨h4022, hP⟩ := hP
        refine V_callV_v X [.ref b411] kw_RX8_193 ki_X1_takeFrom ks_X1_takeFrom ksg_X1_takeFrom (m_X1_takeFrom l G N0 _ _ _ _ hP) h4022 (by decide) rfl rfl ⟨Nat.le_of_ble_eq_true rfl, Nat.le_of_ble_eq_true rfl⟩ (Nat.le_of_ble_eq_true rfl) ⟨Nat.le_of_ble_eq_true rfl, Nat.le_of_ble_eq_true rfl⟩ rfl dX8_send_68 (fun σ413 hP => ?_)
        refine V_iload_n X dX8_send_71 rfl 2 rfl ?_
        refine V_iconst X (v := (1 : Int32)) dX8_send_72 (by decide) ?_
        refine V_iload_n X dX8_send_73 rfl 3 rfl ?_
        refine V_ishl X dX8_send_74 ?_
        refine V_ior X dX8_send_75 ?_
        refine V_istore_n X (lv' := [(1, .int (v1 ||| ((1 : Int32) <<< (v2 &&& 31)))), (3, va_rf (gr σ4 b401 (Int32.toNatClampNeg v2))), (0, .ref a0), (2, .int v2)]) dX8_send_76 rfl (by decide) rfl ?_
        refine V_aload_n X dX8_send_77 rfl 2 rfl ?_
        refine V_dup X dX8_send_78 rfl ?_
        obtain ⟨h4023, hP⟩ := hP
        refine V_geti X kf_RX8_47 rfl h4023 dX8_send_79 ?_
        refine V_iconst X (v := (1 : Int32)) dX8_send_82 (by decide) ?_
        refine V_iadd X dX8_send_83 ?_
        refine V_puti X kf_RX8_47 (fun h => by cases h) rfl h4023 (Or.inl rfl) dX8_send_84 ?_
        refine V_iinc X (v := (v2 + (1 : Int32))) (lv' := [(2, .int (v2 + (1 : Int32))), (1, .int (v1 ||| ((1 : Int32) <<< (v2 &&& 31)))), (3, va_rf (gr σ4 b401 (Int32.toNatClampNeg v2))), (0, .ref a0)]) dX8_send_87 3 rfl rfl (by decide) rfl ?_
        refine V_goto X (tgt := 4) dX8_send_90 (by decide) ?_
        exact V.to [3, 1, 0] rfl rfl hP
    · have hP := hP.1 h4006
      refine V_goto X (tgt := 87) dX8_send_24 (by decide) ?_
      refine V_iinc X (v := (v2 + (1 : Int32))) (lv' := [(2, .int (v2 + (1 : Int32))), (3, va_rf (gr σ4 b401 (Int32.toNatClampNeg v2))), (0, .ref a0), (1, .int v1)]) dX8_send_87 3 rfl rfl (by decide) rfl ?_
      refine V_goto X (tgt := 4) dX8_send_90 (by decide) ?_
      exact V.to [2, 3, 0] rfl rfl hP
def P_X8_shape (a0 : Nat) (σ : Hp) (post : Int32 → Hp → Prop) : Prop :=
  gk σ a0 = some (8, 0) ∧ ∃ b1 : Nat, (gr σ a0 9) = some b1 ∧ gk σ b1 = some (6, 0) ∧ P_X6_clear b1 σ (fun (σ2 : Hp) => ∀ q3 : Nat, gk σ2 q3 = none → gk (nw σ2 q3 2 0) a0 = some (8, 0) ∧ ∃ b4 : Nat, (gr (nw σ2 q3 2 0) a0 9) = some b4 ∧ ∃ b5 : Nat, (gr (nw σ2 q3 2 0) a0 2) = some b5 ∧ P_X2_init q3 b5 b4 (nw σ2 q3 2 0) (fun (σ6 : Hp) => gk σ6 q3 = some (2, 0) ∧ P_X2_readText q3 σ6 (fun (r7 : Int32) (σ7 : Hp) => (r7 = 0 → gk σ7 q3 = some (2, 0) ∧ P_X2_place q3 σ7 (fun (r8 : Int32) (σ8 : Hp) => gk σ8 a0 = some (8, 0) ∧ ∃ b9 : Nat, (gr σ8 a0 2) = some b9 ∧ gk σ8 b9 = some (7, 0) ∧ P_X7_cutTo b9 (0 : Int32) (si σ8 a0 7 r8) (fun (σ10 : Hp) => (¬ r7 = 0 → gk σ10 a0 = some (8, 0) ∧ ∃ b11 : Nat, (gr σ10 a0 9) = some b11 ∧ gk σ10 b11 = some (6, 0) ∧ P_X6_parts b11 (sr (sr σ10 a0 4 (gr σ10 a0 9)) a0 9 (gr σ10 a0 4)) (fun (r12 : Int32) (σ12 : Hp) => gk σ12 a0 = some (8, 0) ∧ P_X8_answered a0 r12 σ12 (fun (r13 : Int32) (σ13 : Hp) => post r13 σ13))) ∧ (r7 = 0 → gk σ10 a0 = some (8, 0) ∧ P_X8_refused a0 (-6 : Int32) σ10 (fun (r14 : Int32) (σ14 : Hp) => post r14 σ14))))) ∧ (¬ (r7 = 0) → gk σ7 a0 = some (8, 0) ∧ ∃ b15 : Nat, (gr σ7 a0 2) = some b15 ∧ gk σ7 b15 = some (7, 0) ∧ P_X7_cutTo b15 (0 : Int32) (si σ7 a0 7 (-1 : Int32)) (fun (σ16 : Hp) => (¬ r7 = 0 → gk σ16 a0 = some (8, 0) ∧ ∃ b17 : Nat, (gr σ16 a0 9) = some b17 ∧ gk σ16 b17 = some (6, 0) ∧ P_X6_parts b17 (sr (sr σ16 a0 4 (gr σ16 a0 9)) a0 9 (gr σ16 a0 4)) (fun (r18 : Int32) (σ18 : Hp) => gk σ18 a0 = some (8, 0) ∧ P_X8_answered a0 r18 σ18 (fun (r19 : Int32) (σ19 : Hp) => post r19 σ19))) ∧ (r7 = 0 → gk σ16 a0 = some (8, 0) ∧ P_X8_refused a0 (-6 : Int32) σ16 (fun (r20 : Int32) (σ20 : Hp) => post r20 σ20)))))))
set_option maxHeartbeats 2000000 in
set_option maxRecDepth 100000 in
theorem m_X8_shape (l : Launch) (G : GG) (N0 : Nat) (a0 : Nat) (σ : Hp) (post : Int32 → Hp → Prop) (hP : P_X8_shape a0 σ post) : MM l G N0 yX8_shape cX8_shape 4 (some .int) (49) (1496) 1 4 [.ref a0] σ (pI post) := by
  refine MM.of (by decide) (Nat.le_of_ble_eq_true rfl) ?_
  intro p e s m args below meth c X hr hnm
  refine V.to (lv2 := [(0, .ref a0)]) [0] rfl rfl ?_
  unfold P_X8_shape at hP
  refine V_aload_n X dX8_shape_0 rfl 0 rfl ?_
  obtain ⟨h1, hP⟩ := hP
  refine V_getr X kf_RX8_56 rfl h1 dX8_shape_1 ?_
  obtain ⟨b1, h2, hP⟩ := hP
  refine V_dr0 h2 ?_
  obtain ⟨h3, hP⟩ := hP
  refine V_callV_v X [] kw_RX8_148 ki_X6_clear ks_X6_clear ksg_X6_clear (m_X6_clear l G N0 _ _ _ hP) h3 (by decide) rfl rfl ⟨Nat.le_of_ble_eq_true rfl, Nat.le_of_ble_eq_true rfl⟩ (Nat.le_of_ble_eq_true rfl) ⟨Nat.le_of_ble_eq_true rfl, Nat.le_of_ble_eq_true rfl⟩ rfl dX8_shape_4 (fun σ2 hP => ?_)
  refine V_new X (t := 2) kp_RX8_151 (by decide) (by decide) dX8_shape_7 (fun q3 h4 => ?_)
  have hP := hP q3 h4
  have h5 : gk (nw σ2 q3 2 0) q3 = _ := gk_new
  refine V_dup X dX8_shape_10 rfl ?_
  refine V_aload_n X dX8_shape_11 rfl 0 rfl ?_
  obtain ⟨h6, hP⟩ := hP
  refine V_getr X kf_RX8_26 rfl h6 dX8_shape_12 ?_
  refine V_aload_n X dX8_shape_15 rfl 0 rfl ?_
  refine V_getr X kf_RX8_56 rfl h6 dX8_shape_16 ?_
  obtain ⟨b4, h7, hP⟩ := hP
  refine V_dr0 h7 ?_
  obtain ⟨b5, h8, hP⟩ := hP
  refine V_dr1 h8 ?_
  refine V_callI_v X [.ref b5, .ref b4] kw_RX8_153 ki_X2_init rfl (m_X2_init l G N0 _ _ _ _ _ hP) rfl ⟨Nat.le_of_ble_eq_true rfl, Nat.le_of_ble_eq_true rfl⟩ (Nat.le_of_ble_eq_true rfl) ⟨Nat.le_of_ble_eq_true rfl, Nat.le_of_ble_eq_true rfl⟩ rfl dX8_shape_19 (fun σ6 hP => ?_)
  refine V_astore_n X (lv' := [(1, .ref q3), (0, .ref a0)]) dX8_shape_22 rfl (by decide) rfl ?_
  refine V_aload_n X dX8_shape_23 rfl 0 rfl ?_
  obtain ⟨h9, hP⟩ := hP
  refine V_callV_i X [] kw_RX8_156 ki_X2_readText ks_X2_readText ksg_X2_readText (m_X2_readText l G N0 _ _ _ hP) h9 (by decide) rfl rfl ⟨Nat.le_of_ble_eq_true rfl, Nat.le_of_ble_eq_true rfl⟩ (Nat.le_of_ble_eq_true rfl) ⟨Nat.le_of_ble_eq_true rfl, Nat.le_of_ble_eq_true rfl⟩ rfl dX8_shape_24 (fun r7 σ7 hP => ?_)
  refine V_istore_n X (lv' := [(2, .int r7), (1, .ref q3), (0, .ref a0)]) dX8_shape_27 rfl (by decide) rfl ?_
  refine V_aload_n X dX8_shape_28 rfl 2 rfl ?_
  refine V_iload_n X dX8_shape_29 rfl 0 rfl ?_
  refine V_if_eq X (tgt := 37) dX8_shape_30 (by decide) (fun h10 => ?_) (fun h10 => ?_)
  · have hP := hP.1 h10
    refine V_aload_n X dX8_shape_37 rfl 1 rfl ?_
    obtain ⟨h11, hP⟩ := hP
    refine V_callV_i X [] kw_RX8_159 ki_X2_place ks_X2_place ksg_X2_place (m_X2_place l G N0 _ _ _ hP) h11 (by decide) rfl rfl ⟨Nat.le_of_ble_eq_true rfl, Nat.le_of_ble_eq_true rfl⟩ (Nat.le_of_ble_eq_true rfl) ⟨Nat.le_of_ble_eq_true rfl, Nat.le_of_ble_eq_true rfl⟩ rfl dX8_shape_38 (fun r8 σ8 hP => ?_)
    obtain ⟨h12, hP⟩ := hP
    refine V_puti X kf_RX8_50 (fun h => by cases h) rfl h12 (Or.inl rfl) dX8_shape_41 ?_
    refine V_aload_n X dX8_shape_44 rfl 2 rfl ?_
    refine V_getr X kf_RX8_26 rfl h12 dX8_shape_45 ?_
    rw [show gr (si σ8 a0 7 r8) a0 2 = (gr σ8 a0 2) from rfl]
    refine V_iconst X (v := (0 : Int32)) dX8_shape_48 (by decide) ?_
    obtain ⟨b9, h13, hP⟩ := hP
    refine V_dr1 h13 ?_
    obtain ⟨h14, hP⟩ := hP
    refine V_callV_v X [.int (0 : Int32)] kw_RX8_145 ki_X7_cutTo ks_X7_cutTo ksg_X7_cutTo (m_X7_cutTo l G N0 _ _ _ _ hP) h14 (by decide) rfl rfl ⟨Nat.le_of_ble_eq_true rfl, Nat.le_of_ble_eq_true rfl⟩ (Nat.le_of_ble_eq_true rfl) ⟨Nat.le_of_ble_eq_true rfl, Nat.le_of_ble_eq_true rfl⟩ rfl dX8_shape_49 (fun σ10 hP => ?_)
    refine V_iload_n X dX8_shape_52 rfl 0 rfl ?_
    refine V_if_ne X (tgt := 63) dX8_shape_53 (by decide) (fun h15 => ?_) (fun h15 => ?_)
    · have hP := hP.1 h15
      refine V_aload_n X dX8_shape_63 rfl 2 rfl ?_
      obtain ⟨h16, hP⟩ := hP
      refine V_getr X kf_RX8_39 rfl h16 dX8_shape_64 ?_
      refine V_astore_nr X (x := (gr σ10 a0 4)) (lv' := [(3, va_rf (gr σ10 a0 4)), (2, .int r7), (1, .ref q3), (0, .ref a0)]) dX8_shape_67 rfl (by decide) rfl ?_
      refine V_aload_n X dX8_shape_68 rfl 3 rfl ?_
      refine V_aload_n X dX8_shape_69 rfl 3 rfl ?_
      refine V_getr X kf_RX8_56 rfl h16 dX8_shape_70 ?_
      refine V_putr X (v := (gr σ10 a0 9)) kf_RX8_39 (fun h => by cases h) rfl h16 (Or.inl ⟨_, rfl⟩) dX8_shape_73 ?_
      refine V_aload_n X dX8_shape_76 rfl 3 rfl ?_
      refine V_aload_nr X dX8_shape_77 rfl 0 rfl ?_
      refine V_putr X (v := (gr σ10 a0 4)) kf_RX8_56 (fun h => by cases h) rfl h16 (Or.inl ⟨_, rfl⟩) dX8_shape_78 ?_
      refine V_aload_n X dX8_shape_81 rfl 3 rfl ?_
      refine V_aload_n X dX8_shape_82 rfl 3 rfl ?_
      refine V_getr X kf_RX8_39 rfl h16 dX8_shape_83 ?_
      rw [show gr (sr (sr σ10 a0 4 (gr σ10 a0 9)) a0 9 (gr σ10 a0 4)) a0 4 = (gr σ10 a0 9) from ((gr_sk (by decide)).trans gr_ss)]
      obtain ⟨b11, h17, hP⟩ := hP
      refine V_dr0 h17 ?_
      obtain ⟨h18, hP⟩ := hP
      refine V_callV_i X [] kw_RX8_162 ki_X6_parts ks_X6_parts ksg_X6_parts (m_X6_parts l G N0 _ _ _ hP) h18 (by decide) rfl rfl ⟨Nat.le_of_ble_eq_true rfl, Nat.le_of_ble_eq_true rfl⟩ (Nat.le_of_ble_eq_true rfl) ⟨Nat.le_of_ble_eq_true rfl, Nat.le_of_ble_eq_true rfl⟩ rfl dX8_shape_86 (fun r12 σ12 hP => ?_)
      obtain ⟨h19, hP⟩ := hP
      refine V_callV_i X [.int r12] kw_RX8_101 ki_X8_answered ks_X8_answered ksg_X8_answered (m_X8_answered l G N0 _ _ _ _ hP) h19 (by decide) rfl rfl ⟨Nat.le_of_ble_eq_true rfl, Nat.le_of_ble_eq_true rfl⟩ (Nat.le_of_ble_eq_true rfl) ⟨Nat.le_of_ble_eq_true rfl, Nat.le_of_ble_eq_true rfl⟩ rfl dX8_shape_89 (fun r13 σ13 hP => ?_)
      exact V_iret X hr (Or.inl rfl) (Nat.le_of_ble_eq_true rfl) (Nat.le_of_ble_eq_true rfl) dX8_shape_92 ⟨_, rfl, hP⟩
    · have hP := hP.2 h15
      refine V_aload_n X dX8_shape_56 rfl 2 rfl ?_
      refine V_bipush X (v := (-6 : Int32)) dX8_shape_57 (by decide) ?_
      obtain ⟨h20, hP⟩ := hP
      refine V_callV_i X [.int (-6 : Int32)] kw_RX8_76 ki_X8_refused ks_X8_refused ksg_X8_refused (m_X8_refused l G N0 _ _ _ _ hP) h20 (by decide) rfl rfl ⟨Nat.le_of_ble_eq_true rfl, Nat.le_of_ble_eq_true rfl⟩ (Nat.le_of_ble_eq_true rfl) ⟨Nat.le_of_ble_eq_true rfl, Nat.le_of_ble_eq_true rfl⟩ rfl dX8_shape_59 (fun r14 σ14 hP => ?_)
      exact V_iret X hr (Or.inl rfl) (Nat.le_of_ble_eq_true rfl) (Nat.le_of_ble_eq_true rfl) dX8_shape_62 ⟨_, rfl, hP⟩
  · have hP := hP.2 h10
    refine V_iconst X (v := (-1 : Int32)) dX8_shape_33 (by decide) ?_
    refine V_goto X (tgt := 41) dX8_shape_34 (by decide) ?_
    obtain ⟨h21, hP⟩ := hP
    refine V_puti X kf_RX8_50 (fun h => by cases h) rfl h21 (Or.inl rfl) dX8_shape_41 ?_
    refine V_aload_n X dX8_shape_44 rfl 2 rfl ?_
    refine V_getr X kf_RX8_26 rfl h21 dX8_shape_45 ?_
    rw [show gr (si σ7 a0 7 (-1 : Int32)) a0 2 = (gr σ7 a0 2) from rfl]
    refine V_iconst X (v := (0 : Int32)) dX8_shape_48 (by decide) ?_
    obtain ⟨b15, h22, hP⟩ := hP
    refine V_dr1 h22 ?_
    obtain ⟨h23, hP⟩ := hP
    refine V_callV_v X [.int (0 : Int32)] kw_RX8_145 ki_X7_cutTo ks_X7_cutTo ksg_X7_cutTo (m_X7_cutTo l G N0 _ _ _ _ hP) h23 (by decide) rfl rfl ⟨Nat.le_of_ble_eq_true rfl, Nat.le_of_ble_eq_true rfl⟩ (Nat.le_of_ble_eq_true rfl) ⟨Nat.le_of_ble_eq_true rfl, Nat.le_of_ble_eq_true rfl⟩ rfl dX8_shape_49 (fun σ16 hP => ?_)
    refine V_iload_n X dX8_shape_52 rfl 0 rfl ?_
    refine V_if_ne X (tgt := 63) dX8_shape_53 (by decide) (fun h24 => ?_) (fun h24 => ?_)
    · have hP := hP.1 h24
      refine V_aload_n X dX8_shape_63 rfl 2 rfl ?_
      obtain ⟨h25, hP⟩ := hP
      refine V_getr X kf_RX8_39 rfl h25 dX8_shape_64 ?_
      refine V_astore_nr X (x := (gr σ16 a0 4)) (lv' := [(3, va_rf (gr σ16 a0 4)), (2, .int r7), (1, .ref q3), (0, .ref a0)]) dX8_shape_67 rfl (by decide) rfl ?_
      refine V_aload_n X dX8_shape_68 rfl 3 rfl ?_
      refine V_aload_n X dX8_shape_69 rfl 3 rfl ?_
      refine V_getr X kf_RX8_56 rfl h25 dX8_shape_70 ?_
      refine V_putr X (v := (gr σ16 a0 9)) kf_RX8_39 (fun h => by cases h) rfl h25 (Or.inl ⟨_, rfl⟩) dX8_shape_73 ?_
      refine V_aload_n X dX8_shape_76 rfl 3 rfl ?_
      refine V_aload_nr X dX8_shape_77 rfl 0 rfl ?_
      refine V_putr X (v := (gr σ16 a0 4)) kf_RX8_56 (fun h => by cases h) rfl h25 (Or.inl ⟨_, rfl⟩) dX8_shape_78 ?_
      refine V_aload_n X dX8_shape_81 rfl 3 rfl ?_
      refine V_aload_n X dX8_shape_82 rfl 3 rfl ?_
      refine V_getr X kf_RX8_39 rfl h25 dX8_shape_83 ?_
      rw [show gr (sr (sr σ16 a0 4 (gr σ16 a0 9)) a0 9 (gr σ16 a0 4)) a0 4 = (gr σ16 a0 9) from ((gr_sk (by decide)).trans gr_ss)]
      obtain ⟨b17, h26, hP⟩ := hP
      refine V_dr0 h26 ?_
      obtain ⟨h27, hP⟩ := hP
      refine V_callV_i X [] kw_RX8_162 ki_X6_parts ks_X6_parts ksg_X6_parts (m_X6_parts l G N0 _ _ _ hP) h27 (by decide) rfl rfl ⟨Nat.le_of_ble_eq_true rfl, Nat.le_of_ble_eq_true rfl⟩ (Nat.le_of_ble_eq_true rfl) ⟨Nat.le_of_ble_eq_true rfl, Nat.le_of_ble_eq_true rfl⟩ rfl dX8_shape_86 (fun r18 σ18 hP => ?_)
      obtain ⟨h28, hP⟩ := hP
      refine V_callV_i X [.int r18] kw_RX8_101 ki_X8_answered ks_X8_answered ksg_X8_answered (m_X8_answered l G N0 _ _ _ _ hP) h28 (by decide) rfl rfl ⟨Nat.le_of_ble_eq_true rfl, Nat.le_of_ble_eq_true rfl⟩ (Nat.le_of_ble_eq_true rfl) ⟨Nat.le_of_ble_eq_true rfl, Nat.le_of_ble_eq_true rfl⟩ rfl dX8_shape_89 (fun r19 σ19 hP => ?_)
      exact V_iret X hr (Or.inl rfl) (Nat.le_of_ble_eq_true rfl) (Nat.le_of_ble_eq_true rfl) dX8_shape_92 ⟨_, rfl, hP⟩
    · have hP := hP.2 h24
      refine V_aload_n X dX8_shape_56 rfl 2 rfl ?_
      refine V_bipush X (v := (-6 : Int32)) dX8_shape_57 (by decide) ?_
      obtain ⟨h29, hP⟩ := hP
      refine V_callV_i X [.int (-6 : Int32)] kw_RX8_76 ki_X8_refused ks_X8_refused ksg_X8_refused (m_X8_refused l G N0 _ _ _ _ hP) h29 (by decide) rfl rfl ⟨Nat.le_of_ble_eq_true rfl, Nat.le_of_ble_eq_true rfl⟩ (Nat.le_of_ble_eq_true rfl) ⟨Nat.le_of_ble_eq_true rfl, Nat.le_of_ble_eq_true rfl⟩ rfl dX8_shape_59 (fun r20 σ20 hP => ?_)
      exact V_iret X hr (Or.inl rfl) (Nat.le_of_ble_eq_true rfl) (Nat.le_of_ble_eq_true rfl) dX8_shape_62 ⟨_, rfl, hP⟩
def P_X8_size (a0 : Nat) (x1 : Int32) (σ : Hp) (post : Int32 → Hp → Prop) : Prop :=
  gk σ a0 = some (8, 0) ∧ ∃ b1 : Nat, (gr σ a0 0) = some b1 ∧ ∃ b2 : Nat, (gr σ a0 4) = some b2 ∧ ∃ b3 : Nat, (gr σ a0 11) = some b3 ∧ gk σ b3 = some (1, 0) ∧ P_X1_gather b3 b2 b1 x1 σ (fun (σ4 : Hp) => gk σ4 a0 = some (8, 0) ∧ ∃ b5 : Nat, (gr σ4 a0 11) = some b5 ∧ gk σ4 b5 = some (1, 0) ∧ P_X1_length b5 σ4 (fun (r6 : Int32) (σ6 : Hp) => post r6 σ6))
set_option maxHeartbeats 2000000 in
set_option maxRecDepth 100000 in
theorem m_X8_size (l : Launch) (G : GG) (N0 : Nat) (a0 : Nat) (x1 : Int32) (σ : Hp) (post : Int32 → Hp → Prop) (hP : P_X8_size a0 x1 σ post) : MM l G N0 yX8_size cX8_size 2 (some .int) (40) (1156) 0 0 [.ref a0, .int x1] σ (pI post) := by
  refine MM.of (by decide) (Nat.le_of_ble_eq_true rfl) ?_
  intro p e s m args below meth c X hr hnm
  refine V.to (lv2 := [(0, .ref a0), (1, .int x1)]) [0, 1] rfl rfl ?_
  unfold P_X8_size at hP
  refine V_aload_n X dX8_size_0 rfl 0 rfl ?_
  obtain ⟨h1, hP⟩ := hP
  refine V_getr X kf_RX8_65 rfl h1 dX8_size_1 ?_
  refine V_aload_n X dX8_size_4 rfl 0 rfl ?_
  refine V_getr X kf_RX8_39 rfl h1 dX8_size_5 ?_
  refine V_aload_n X dX8_size_8 rfl 0 rfl ?_
  refine V_getr X kf_RX8_12 rfl h1 dX8_size_9 ?_
  refine V_iload_n X dX8_size_12 rfl 1 rfl ?_
  obtain ⟨b1, h2, hP⟩ := hP
  refine V_dr1 h2 ?_
  obtain ⟨b2, h3, hP⟩ := hP
  refine V_dr2 h3 ?_
  obtain ⟨b3, h4, hP⟩ := hP
  refine V_dr3 h4 ?_
  obtain ⟨h5, hP⟩ := hP
  refine V_callV_v X [.ref b2, .ref b1, .int x1] kw_RX8_165 ki_X1_gather ks_X1_gather ksg_X1_gather (m_X1_gather l G N0 _ _ _ _ _ _ hP) h5 (by decide) rfl rfl ⟨Nat.le_of_ble_eq_true rfl, Nat.le_of_ble_eq_true rfl⟩ (Nat.le_of_ble_eq_true rfl) ⟨Nat.le_of_ble_eq_true rfl, Nat.le_of_ble_eq_true rfl⟩ rfl dX8_size_13 (fun σ4 hP => ?_)
  refine V_aload_n X dX8_size_16 rfl 0 rfl ?_
  obtain ⟨h6, hP⟩ := hP
  refine V_getr X kf_RX8_65 rfl h6 dX8_size_17 ?_
  obtain ⟨b5, h7, hP⟩ := hP
  refine V_dr0 h7 ?_
  obtain ⟨h8, hP⟩ := hP
  refine V_callV_i X [] kw_RX8_169 ki_X1_length ks_X1_length ksg_X1_length (m_X1_length l G N0 _ _ _ hP) h8 (by decide) rfl rfl ⟨Nat.le_of_ble_eq_true rfl, Nat.le_of_ble_eq_true rfl⟩ (Nat.le_of_ble_eq_true rfl) ⟨Nat.le_of_ble_eq_true rfl, Nat.le_of_ble_eq_true rfl⟩ rfl dX8_size_20 (fun r6 σ6 hP => ?_)
  exact V_iret X hr (Or.inl rfl) (Nat.le_of_ble_eq_true rfl) (Nat.le_of_ble_eq_true rfl) dX8_size_23 ⟨_, rfl, hP⟩
def P_X8_status (a0 : Nat) (σ : Hp) (post : Int32 → Hp → Prop) : Prop :=
  gk σ a0 = some (8, 0) ∧ post (gi σ a0 8) σ
set_option maxHeartbeats 2000000 in
set_option maxRecDepth 100000 in
theorem m_X8_status (l : Launch) (G : GG) (N0 : Nat) (a0 : Nat) (σ : Hp) (post : Int32 → Hp → Prop) (hP : P_X8_status a0 σ post) : MM l G N0 yX8_status cX8_status 1 (some .int) (0) (0) 0 0 [.ref a0] σ (pI post) := by
  refine MM.of (by decide) (Nat.le_of_ble_eq_true rfl) ?_
  intro p e s m args below meth c X hr hnm
  refine V.to (lv2 := [(0, .ref a0)]) [0] rfl rfl ?_
  unfold P_X8_status at hP
  refine V_aload_n X dX8_status_0 rfl 0 rfl ?_
  obtain ⟨h1, hP⟩ := hP
  refine V_geti X kf_RX8_53 rfl h1 dX8_status_1 ?_
  exact V_iret X hr (Or.inl rfl) (Nat.le_of_ble_eq_true rfl) (Nat.le_of_ble_eq_true rfl) dX8_status_4 ⟨_, rfl, hP⟩
def F_X8_touched_51 (a0 : Nat) (post : Int32 → Hp → Prop) (I51 : Int32 → Int32 → Hp → Prop) (v4 : Int32) (v5 : Int32) (σ51 : Hp) : Prop :=
  gk σ51 a0 = some (8, 0) ∧ ∃ b5101 : Nat, (gr σ51 a0 3) = some b5101 ∧ ∃ n5102 : Nat, gk σ51 b5101 = some (12, n5102) ∧ ((Int32.ofNat n5102) ≤ v5 → post v4 σ51) ∧ (¬ ((Int32.ofNat n5102) ≤ v5) → vp_in v5 n5102 ∧ ((gr σ51 b5101 (Int32.toNatClampNeg v5)) = none → I51 v4 (v5 + (1 : Int32)) σ51) ∧ (∀ b5103 : Nat, (gr σ51 b5101 (Int32.toNatClampNeg v5)) = some b5103 → gk σ51 b5103 = some (3, 0) ∧ P_X8_isOtherwiseThen a0 (gi σ51 b5103 0) σ51 (fun (r5104 : Int32) (σ5104 : Hp) => (r5104 = 0 → I51 v4 (v5 + (1 : Int32)) σ5104) ∧ (¬ (r5104 = 0) → I51 (v4 ||| ((1 : Int32) <<< (v5 &&& 31))) (v5 + (1 : Int32)) σ5104))))
def P_X8_touched (a0 : Nat) (x1 : Int32) (x2 : Int32) (σ : Hp) (post : Int32 → Hp → Prop) : Prop :=
  gk σ a0 = some (8, 0) ∧ ∃ b1 : Nat, (gr σ a0 0) = some b1 ∧ gk σ b1 = some (5, 0) ∧ P_X5_standing b1 x1 σ (fun (r2 : Option Nat) (σ2 : Hp) => (r2 = none → post (0 : Int32) σ2) ∧ (∀ b3 : Nat, r2 = some b3 → P_X8_isValue x2 σ2 (fun (r4 : Int32) (σ4 : Hp) => (¬ r4 = 0 → gk σ4 a0 = some (8, 0) ∧ ∃ b5 : Nat, (gr σ4 a0 0) = some b5 ∧ ∃ b6 : Nat, (gr σ4 a0 10) = some b6 ∧ gk σ4 b6 = some (5, 0) ∧ P_X5_takeFrom b6 b5 σ4 (fun (σ7 : Hp) => gk σ7 a0 = some (8, 0) ∧ gk σ7 b3 = some (4, 0) ∧ P_X4_withValue b3 x2 σ7 (fun (r8 : Option Nat) (σ8 : Hp) => ∃ b9 : Nat, r8 = some b9 ∧ ∃ b10 : Nat, (gr σ7 a0 10) = some b10 ∧ gk σ8 b10 = some (5, 0) ∧ P_X5_put b10 b9 σ8 (fun (σ11 : Hp) => lfp2 (F_X8_touched_51 a0 post) (0 : Int32) (0 : Int32) σ11)))) ∧ (r4 = 0 → post (0 : Int32) σ4))))
set_option maxHeartbeats 2000000 in
set_option maxRecDepth 100000 in
theorem m_X8_touched (l : Launch) (G : GG) (N0 : Nat) (a0 : Nat) (x1 : Int32) (x2 : Int32) (σ : Hp) (post : Int32 → Hp → Prop) (hP : P_X8_touched a0 x1 x2 σ post) : MM l G N0 yX8_touched cX8_touched 7 (some .int) (41) (1177) 1 6 [.ref a0, .int x1, .int x2] σ (pI post) := by
  refine MM.of (by decide) (Nat.le_of_ble_eq_true rfl) ?_
  intro p e s m args below meth c X hr hnm
  refine V.to (lv2 := [(0, .ref a0), (1, .int x1), (2, .int x2)]) [0, 1, 2] rfl rfl ?_
  unfold P_X8_touched at hP
  refine V_aload_n X dX8_touched_0 rfl 0 rfl ?_
  obtain ⟨h1, hP⟩ := hP
  refine V_getr X kf_RX8_12 rfl h1 dX8_touched_1 ?_
  refine V_iload_n X dX8_touched_4 rfl 1 rfl ?_
  obtain ⟨b1, h2, hP⟩ := hP
  refine V_dr1 h2 ?_
  obtain ⟨h3, hP⟩ := hP
  refine V_callV_r X [.int x1] kw_RX8_104 ki_X5_standing ks_X5_standing ksg_X5_standing (m_X5_standing l G N0 _ _ _ _ hP) h3 (by decide) rfl rfl ⟨Nat.le_of_ble_eq_true rfl, Nat.le_of_ble_eq_true rfl⟩ (Nat.le_of_ble_eq_true rfl) ⟨Nat.le_of_ble_eq_true rfl, Nat.le_of_ble_eq_true rfl⟩ rfl dX8_touched_5 (fun r2 σ2 hP => ?_)
  refine V_astore_nr X (x := r2) (lv' := [(3, va_rf r2), (0, .ref a0), (1, .int x1), (2, .int x2)]) dX8_touched_8 rfl (by decide) rfl ?_
  refine V_aload_nr X dX8_touched_9 rfl 0 rfl ?_
  refine V_ifnull X (tgt := 20) dX8_touched_10 (by decide) (fun h4 => ?_) (fun b3 h4 => ?_)
  · have hP := hP.1 h4
    refine V_iconst X (v := (0 : Int32)) dX8_touched_20 (by decide) ?_
    exact V_iret X hr (Or.inl rfl) (Nat.le_of_ble_eq_true rfl) (Nat.le_of_ble_eq_true rfl) dX8_touched_21 ⟨_, rfl, hP⟩
  · have hP := hP.2 b3 h4
    refine V_iload_n X dX8_touched_13 rfl 3 rfl ?_
    refine V_callS_i X [.int x2] kw_RX8_72 ki_X8_isValue (m_X8_isValue l G N0 _ _ _ hP) rfl ⟨Nat.le_of_ble_eq_true rfl, Nat.le_of_ble_eq_true rfl⟩ (Nat.le_of_ble_eq_true rfl) ⟨Nat.le_of_ble_eq_true rfl, Nat.le_of_ble_eq_true rfl⟩ rfl dX8_touched_14 (fun r4 σ4 hP => ?_)
    refine V_if_ne X (tgt := 22) dX8_touched_17 (by decide) (fun h5 => ?_) (fun h5 => ?_)
    · have hP := hP.1 h5
      refine V_aload_n X dX8_touched_22 rfl 1 rfl ?_
      obtain ⟨h6, hP⟩ := hP
      refine V_getr X kf_RX8_59 rfl h6 dX8_touched_23 ?_
      refine V_aload_n X dX8_touched_26 rfl 1 rfl ?_
      refine V_getr X kf_RX8_12 rfl h6 dX8_touched_27 ?_
      obtain ⟨b5, h7, hP⟩ := hP
      refine V_dr0 h7 ?_
      obtain ⟨b6, h8, hP⟩ := hP
      refine V_dr1 h8 ?_
      obtain ⟨h9, hP⟩ := hP
      refine V_callV_v X [.ref b5] kw_RX8_220 ki_X5_takeFrom ks_X5_takeFrom ksg_X5_takeFrom (m_X5_takeFrom l G N0 _ _ _ _ hP) h9 (by decide) rfl rfl ⟨Nat.le_of_ble_eq_true rfl, Nat.le_of_ble_eq_true rfl⟩ (Nat.le_of_ble_eq_true rfl) ⟨Nat.le_of_ble_eq_true rfl, Nat.le_of_ble_eq_true rfl⟩ rfl dX8_touched_30 (fun σ7 hP => ?_)
      refine V_aload_n X dX8_touched_33 rfl 1 rfl ?_
      obtain ⟨h10, hP⟩ := hP
      refine V_getr X kf_RX8_59 rfl h10 dX8_touched_34 ?_
      refine V_aload_nr X dX8_touched_37 rfl 0 rfl ?_
      refine V_iload_n X dX8_touched_38 rfl 3 rfl ?_
      refine V_dr1 h4 ?_
      obtain ⟨h11, hP⟩ := hP
      refine V_callV_r X [.int x2] kw_RX8_108 ki_X4_withValue ks_X4_withValue ksg_X4_withValue (m_X4_withValue l G N0 _ _ _ _ hP) h11 (by decide) rfl rfl ⟨Nat.le_of_ble_eq_true rfl, Nat.le_of_ble_eq_true rfl⟩ (by simp only [List.map_cons, vcat]; exact Nat.le_of_ble_eq_true rfl) ⟨Nat.le_of_ble_eq_true rfl, Nat.le_of_ble_eq_true rfl⟩ rfl dX8_touched_39 (fun r8 σ8 hP => ?_)
      obtain ⟨b9, h12, hP⟩ := hP
      refine V_dr0 h12 ?_
      obtain ⟨b10, h13, hP⟩ := hP
      refine V_dr1 h13 ?_
      obtain ⟨h14, hP⟩ := hP
      refine V_callV_v X [.ref b9] kw_RX8_223 ki_X5_put ks_X5_put ksg_X5_put (m_X5_put l G N0 _ _ _ _ hP) h14 (by decide) rfl rfl ⟨Nat.le_of_ble_eq_true rfl, Nat.le_of_ble_eq_true rfl⟩ (Nat.le_of_ble_eq_true rfl) ⟨Nat.le_of_ble_eq_true rfl, Nat.le_of_ble_eq_true rfl⟩ rfl dX8_touched_42 (fun σ11 hP => ?_)
      refine V_iconst X (v := (0 : Int32)) dX8_touched_45 (by decide) ?_
      refine V_istore X (lv' := [(4, .int (0 : Int32)), (3, va_rf r2), (0, .ref a0), (1, .int x1), (2, .int x2)]) dX8_touched_46 (by decide) (by simp [vcat]) ?_
      refine V_iconst X (v := (0 : Int32)) dX8_touched_48 (by decide) ?_
      refine V_istore X (lv' := [(5, .int (0 : Int32)), (4, .int (0 : Int32)), (3, va_rf r2), (0, .ref a0), (1, .int x1), (2, .int x2)]) dX8_touched_49 (by decide) rfl ?_
      refine V.to (lv2 := [(0, .ref a0), (4, .int (0 : Int32)), (5, .int (0 : Int32))]) [3, 1, 0] rfl rfl ?_
      refine lfp2_use (fun v4 v5 σ51 => V p l e { frames := 41, cells := 1, slots := 6, locals := 1177 } s m args below meth c (MQ below (QC G N0 (pI post)) args s 1 6 (AN N0)) G N0 7 σ51 1 6 51 [(0, .ref a0), (4, .int v4), (5, .int v5)] []) hP ?_
      intro v4 v5 σ51 hP
      unfold F_X8_touched_51 at hP
      refine V_iload X dX8_touched_51 2 rfl ?_
      refine V_aload_n X dX8_touched_53 rfl 0 rfl ?_
      obtain ⟨h51001, hP⟩ := hP
      refine V_getr X kf_RX8_32 rfl h51001 dX8_touched_54 ?_
      obtain ⟨b5101, h51002, hP⟩ := hP
      refine V_dr0 h51002 ?_
      obtain ⟨n5102, h51003, hP⟩ := hP
      refine V_alen X (Or.inr (Or.inr (Or.inl rfl))) h51003 dX8_touched_57 ?_
      refine V_icmp_ge X (tgt := 102) dX8_touched_58 (by decide) (fun h51004 => ?_) (fun h51004 => ?_)
      · have hP := hP.1 h51004
        refine V_iload X dX8_touched_102 1 rfl ?_
        exact V_iret X hr (Or.inl rfl) (Nat.le_of_ble_eq_true rfl) (Nat.le_of_ble_eq_true rfl) dX8_touched_104 ⟨_, rfl, hP⟩
      · have hP := hP.2 h51004
        refine V_aload_n X dX8_touched_61 rfl 0 rfl ?_
        refine V_getr X kf_RX8_32 rfl h51001 dX8_touched_62 ?_
        refine V_iload X dX8_touched_65 2 rfl ?_
        refine V_dr1 h51002 ?_
        obtain ⟨h51005, hP⟩ := hP
        refine V_aald X (Or.inl rfl) h51003 h51005 dX8_touched_67 ?_
        refine V_astorer X (x := (gr σ51 b5101 (Int32.toNatClampNeg v5))) (lv' := [(6, va_rf (gr σ51 b5101 (Int32.toNatClampNeg v5))), (0, .ref a0), (4, .int v4), (5, .int v5)]) dX8_touched_68 (by decide) rfl ?_
        refine V_aloadr X dX8_touched_70 0 rfl ?_
        refine V_ifnull X (tgt := 96) dX8_touched_72 (by decide) (fun h51006 => ?_) (fun b5103 h51006 => ?_)
        · have hP := hP.1 h51006
          refine V_iinc X (v := (v5 + (1 : Int32))) (lv' := [(5, .int (v5 + (1 : Int32))), (6, va_rf (gr σ51 b5101 (Int32.toNatClampNeg v5))), (0, .ref a0), (4, .int v4)]) dX8_touched_96 3 rfl rfl (by decide) rfl ?_
          refine V_goto X (tgt := 51) dX8_touched_99 (by decide) ?_
          exact V.to [2, 3, 0] rfl rfl hP
        · have hP := hP.2 b5103 h51006
          refine V_aload_n X dX8_touched_75 rfl 1 rfl ?_
          refine V_aloadr X dX8_touched_76 0 rfl ?_
          refine V_dr0 h51006 ?_
          obtain ⟨h51007, hP⟩ := hP
          refine V_geti X kf_RX8_183 rfl h51007 dX8_touched_78 ?_
          refine V_callV_i X [.int (gi σ51 b5103 0)] kw_RX8_225 ki_X8_isOtherwiseThen ks_X8_isOtherwiseThen ksg_X8_isOtherwiseThen (m_X8_isOtherwiseThen l G N0 _ _ _ _ hP) h51001 (by decide) rfl rfl ⟨Nat.le_of_ble_eq_true rfl, Nat.le_of_ble_eq_true rfl⟩ (Nat.le_of_ble_eq_true rfl) ⟨Nat.le_of_ble_eq_true rfl, Nat.le_of_ble_eq_true rfl⟩ rfl dX8_touched_81 (fun r5104 σ5104 hP => ?_)
          refine V_if_eq X (tgt := 96) dX8_touched_84 (by decide) (fun h51008 => ?_) (fun h51008 => ?_)
          · have hP := hP.1 h51008
            refine V_iinc X (v := (v5 + (1 : Int32))) (lv' := [(5, .int (v5 + (1 : Int32))), (6, va_rf (gr σ51 b5101 (Int32.toNatClampNeg v5))), (0, .ref a0), (4, .int v4)]) dX8_touched_96 3 rfl rfl (by decide) rfl ?_
            refine V_goto X (tgt := 51) dX8_touched_99 (by decide) ?_
            exact V.to [2, 3, 0] rfl rfl hP
          · have hP := hP.2 h51008
            refine V_iload X dX8_touched_87 2 rfl ?_
            refine V_iconst X (v := (1 : Int32)) dX8_touched_89 (by decide) ?_
            refine V_iload X dX8_touched_90 3 rfl ?_
            refine V_ishl X dX8_touched_92 ?_
            refine V_ior X dX8_touched_93 ?_
            refine V_istore X (lv' := [(4, .int (v4 ||| ((1 : Int32) <<< (v5 &&& 31)))), (6, va_rf (gr σ51 b5101 (Int32.toNatClampNeg v5))), (0, .ref a0), (5, .int v5)]) dX8_touched_94 (by decide) rfl ?_
            refine V_iinc X (v := (v5 + (1 : Int32))) (lv' := [(5, .int (v5 + (1 : Int32))), (4, .int (v4 ||| ((1 : Int32) <<< (v5 &&& 31)))), (6, va_rf (gr σ51 b5101 (Int32.toNatClampNeg v5))), (0, .ref a0)]) dX8_touched_96 3 rfl rfl (by decide) rfl ?_
            refine V_goto X (tgt := 51) dX8_touched_99 (by decide) ?_
            exact V.to [3, 1, 0] rfl rfl hP
    · have hP := hP.2 h5
      refine V_iconst X (v := (0 : Int32)) dX8_touched_20 (by decide) ?_
      exact V_iret X hr (Or.inl rfl) (Nat.le_of_ble_eq_true rfl) (Nat.le_of_ble_eq_true rfl) dX8_touched_21 ⟨_, rfl, hP⟩
def P_X8_value (a0 : Nat) (x1 : Int32) (x2 : Int32) (σ : Hp) (post : Int32 → Hp → Prop) : Prop :=
  P_X8_isValue x2 σ (fun (r1 : Int32) (σ1 : Hp) => (¬ r1 = 0 → gk σ1 a0 = some (8, 0) ∧ ∃ b2 : Nat, (gr σ1 a0 0) = some b2 ∧ gk σ1 b2 = some (5, 0) ∧ P_X5_standing b2 x1 σ1 (fun (r3 : Option Nat) (σ3 : Hp) => (r3 = none → gk σ3 a0 = some (8, 0) ∧ P_X8_refused a0 (-2 : Int32) σ3 (fun (r5 : Int32) (σ5 : Hp) => post r5 σ5)) ∧ (∀ b4 : Nat, r3 = some b4 → gk σ3 a0 = some (8, 0) ∧ ∃ b6 : Nat, (gr σ3 a0 1) = some b6 ∧ gk σ3 b6 = some (0, 0) ∧ P_X0_isFull b6 σ3 (fun (r7 : Int32) (σ7 : Hp) => (r7 = 0 → gk σ7 b4 = some (4, 0) ∧ P_X4_withValue b4 x2 σ7 (fun (r8 : Option Nat) (σ8 : Hp) => ∃ b9 : Nat, r8 = some b9 ∧ gk σ8 a0 = some (8, 0) ∧ P_X8_tell a0 b9 σ8 (fun (σ10 : Hp) => gk σ10 b4 = some (4, 0) ∧ gk σ10 a0 = some (8, 0) ∧ P_X8_answered a0 (gi σ10 b4 2) σ10 (fun (r11 : Int32) (σ11 : Hp) => post r11 σ11)))) ∧ (¬ (r7 = 0) → gk σ7 a0 = some (8, 0) ∧ P_X8_refused a0 (-5 : Int32) σ7 (fun (r12 : Int32) (σ12 : Hp) => post r12 σ12)))))) ∧ (r1 = 0 → gk σ1 a0 = some (8, 0) ∧ P_X8_refused a0 (-1 : Int32) σ1 (fun (r13 : Int32) (σ13 : Hp) => post r13 σ13)))
set_option maxHeartbeats 2000000 in
set_option maxRecDepth 100000 in
theorem m_X8_value (l : Launch) (G : GG) (N0 : Nat) (a0 : Nat) (x1 : Int32) (x2 : Int32) (σ : Hp) (post : Int32 → Hp → Prop) (hP : P_X8_value a0 x1 x2 σ post) : MM l G N0 yX8_value cX8_value 4 (some .int) (3) (68) 1 6 [.ref a0, .int x1, .int x2] σ (pI post) := by
  refine MM.of (by decide) (Nat.le_of_ble_eq_true rfl) ?_
  intro p e s m args below meth c X hr hnm
  refine V.to (lv2 := [(0, .ref a0), (1, .int x1), (2, .int x2)]) [0, 1, 2] rfl rfl ?_
  unfold P_X8_value at hP
  refine V_iload_n X dX8_value_0 rfl 2 rfl ?_
  refine V_callS_i X [.int x2] kw_RX8_72 ki_X8_isValue (m_X8_isValue l G N0 _ _ _ hP) rfl ⟨Nat.le_of_ble_eq_true rfl, Nat.le_of_ble_eq_true rfl⟩ (Nat.le_of_ble_eq_true rfl) ⟨Nat.le_of_ble_eq_true rfl, Nat.le_of_ble_eq_true rfl⟩ rfl dX8_value_1 (fun r1 σ1 hP => ?_)
  refine V_if_ne X (tgt := 13) dX8_value_4 (by decide) (fun h1 => ?_) (fun h1 => ?_)
  · have hP := hP.1 h1
    refine V_aload_n X dX8_value_13 rfl 0 rfl ?_
    obtain ⟨h2, hP⟩ := hP
    refine V_getr X kf_RX8_12 rfl h2 dX8_value_14 ?_
    refine V_iload_n X dX8_value_17 rfl 1 rfl ?_
    obtain ⟨b2, h3, hP⟩ := hP
    refine V_dr1 h3 ?_
    obtain ⟨h4, hP⟩ := hP
    refine V_callV_r X [.int x1] kw_RX8_104 ki_X5_standing ks_X5_standing ksg_X5_standing (m_X5_standing l G N0 _ _ _ _ hP) h4 (by decide) rfl rfl ⟨Nat.le_of_ble_eq_true rfl, Nat.le_of_ble_eq_true rfl⟩ (Nat.le_of_ble_eq_true rfl) ⟨Nat.le_of_ble_eq_true rfl, Nat.le_of_ble_eq_true rfl⟩ rfl dX8_value_18 (fun r3 σ3 hP => ?_)
    refine V_astore_nr X (x := r3) (lv' := [(3, va_rf r3), (0, .ref a0), (1, .int x1), (2, .int x2)]) dX8_value_21 rfl (by decide) rfl ?_
    refine V_aload_nr X dX8_value_22 rfl 0 rfl ?_
    refine V_ifnonnull X (tgt := 33) dX8_value_23 (by decide) (fun b4 h5 => ?_) (fun h5 => ?_)
    · have hP := hP.2 b4 h5
      refine V_aload_n X dX8_value_33 rfl 1 rfl ?_
      obtain ⟨h7, hP⟩ := hP
      refine V_getr X kf_RX8_19 rfl h7 dX8_value_34 ?_
      obtain ⟨b6, h8, hP⟩ := hP
      refine V_dr0 h8 ?_
      obtain ⟨h9, hP⟩ := hP
      refine V_callV_i X [] kw_RX8_87 ki_X0_isFull ks_X0_isFull ksg_X0_isFull (m_X0_isFull l G N0 _ _ _ hP) h9 (by decide) rfl rfl ⟨Nat.le_of_ble_eq_true rfl, Nat.le_of_ble_eq_true rfl⟩ (Nat.le_of_ble_eq_true rfl) ⟨Nat.le_of_ble_eq_true rfl, Nat.le_of_ble_eq_true rfl⟩ rfl dX8_value_37 (fun r7 σ7 hP => ?_)
      refine V_if_eq X (tgt := 50) dX8_value_40 (by decide) (fun h10 => ?_) (fun h10 => ?_)
      · have hP := hP.1 h10
        refine V_aload_n X dX8_value_50 rfl 1 rfl ?_
        refine V_aload_nr X dX8_value_51 rfl 0 rfl ?_
        refine V_iload_n X dX8_value_52 rfl 3 rfl ?_
        refine V_dr1 h5 ?_
        obtain ⟨h11, hP⟩ := hP
        refine V_callV_r X [.int x2] kw_RX8_108 ki_X4_withValue ks_X4_withValue ksg_X4_withValue (m_X4_withValue l G N0 _ _ _ _ hP) h11 (by decide) rfl rfl ⟨Nat.le_of_ble_eq_true rfl, Nat.le_of_ble_eq_true rfl⟩ (Nat.le_of_ble_eq_true rfl) ⟨Nat.le_of_ble_eq_true rfl, Nat.le_of_ble_eq_true rfl⟩ rfl dX8_value_53 (fun r8 σ8 hP => ?_)
        obtain ⟨b9, h12, hP⟩ := hP
        refine V_dr0 h12 ?_
        obtain ⟨h13, hP⟩ := hP
        refine V_callV_v X [.ref b9] kw_RX8_97 ki_X8_tell ks_X8_tell ksg_X8_tell (m_X8_tell l G N0 _ _ _ _ hP) h13 (by decide) rfl rfl ⟨Nat.le_of_ble_eq_true rfl, Nat.le_of_ble_eq_true rfl⟩ (Nat.le_of_ble_eq_true rfl) ⟨Nat.le_of_ble_eq_true rfl, Nat.le_of_ble_eq_true rfl⟩ rfl dX8_value_56 (fun σ10 hP => ?_)
        refine V_aload_n X dX8_value_59 rfl 1 rfl ?_
        refine V_aload_nr X dX8_value_60 rfl 0 rfl ?_
        refine V_dr0 h5 ?_
        obtain ⟨h14, hP⟩ := hP
        refine V_geti X kf_RX8_111 rfl h14 dX8_value_61 ?_
        obtain ⟨h15, hP⟩ := hP
        refine V_callV_i X [.int (gi σ10 b4 2)] kw_RX8_101 ki_X8_answered ks_X8_answered ksg_X8_answered (m_X8_answered l G N0 _ _ _ _ hP) h15 (by decide) rfl rfl ⟨Nat.le_of_ble_eq_true rfl, Nat.le_of_ble_eq_true rfl⟩ (Nat.le_of_ble_eq_true rfl) ⟨Nat.le_of_ble_eq_true rfl, Nat.le_of_ble_eq_true rfl⟩ rfl dX8_value_64 (fun r11 σ11 hP => ?_)
        exact V_iret X hr (Or.inl rfl) (Nat.le_of_ble_eq_true rfl) (Nat.le_of_ble_eq_true rfl) dX8_value_67 ⟨_, rfl, hP⟩
      · have hP := hP.2 h10
        refine V_aload_n X dX8_value_43 rfl 1 rfl ?_
        refine V_bipush X (v := (-5 : Int32)) dX8_value_44 (by decide) ?_
        obtain ⟨h16, hP⟩ := hP
        refine V_callV_i X [.int (-5 : Int32)] kw_RX8_76 ki_X8_refused ks_X8_refused ksg_X8_refused (m_X8_refused l G N0 _ _ _ _ hP) h16 (by decide) rfl rfl ⟨Nat.le_of_ble_eq_true rfl, Nat.le_of_ble_eq_true rfl⟩ (Nat.le_of_ble_eq_true rfl) ⟨Nat.le_of_ble_eq_true rfl, Nat.le_of_ble_eq_true rfl⟩ rfl dX8_value_46 (fun r12 σ12 hP => ?_)
        exact V_iret X hr (Or.inl rfl) (Nat.le_of_ble_eq_true rfl) (Nat.le_of_ble_eq_true rfl) dX8_value_49 ⟨_, rfl, hP⟩
    · have hP := hP.1 h5
      refine V_aload_n X dX8_value_26 rfl 1 rfl ?_
      refine V_bipush X (v := (-2 : Int32)) dX8_value_27 (by decide) ?_
      obtain ⟨h6, hP⟩ := hP
      refine V_callV_i X [.int (-2 : Int32)] kw_RX8_76 ki_X8_refused ks_X8_refused ksg_X8_refused (m_X8_refused l G N0 _ _ _ _ hP) h6 (by decide) rfl rfl ⟨Nat.le_of_ble_eq_true rfl, Nat.le_of_ble_eq_true rfl⟩ (Nat.le_of_ble_eq_true rfl) ⟨Nat.le_of_ble_eq_true rfl, Nat.le_of_ble_eq_true rfl⟩ rfl dX8_value_29 (fun r5 σ5 hP => ?_)
      exact V_iret X hr (Or.inl rfl) (Nat.le_of_ble_eq_true rfl) (Nat.le_of_ble_eq_true rfl) dX8_value_32 ⟨_, rfl, hP⟩
  · have hP := hP.2 h1
    refine V_aload_n X dX8_value_7 rfl 0 rfl ?_
    refine V_iconst X (v := (-1 : Int32)) dX8_value_8 (by decide) ?_
    obtain ⟨h17, hP⟩ := hP
    refine V_callV_i X [.int (-1 : Int32)] kw_RX8_76 ki_X8_refused ks_X8_refused ksg_X8_refused (m_X8_refused l G N0 _ _ _ _ hP) h17 (by decide) rfl rfl ⟨Nat.le_of_ble_eq_true rfl, Nat.le_of_ble_eq_true rfl⟩ (Nat.le_of_ble_eq_true rfl) ⟨Nat.le_of_ble_eq_true rfl, Nat.le_of_ble_eq_true rfl⟩ rfl dX8_value_9 (fun r13 σ13 hP => ?_)
    exact V_iret X hr (Or.inl rfl) (Nat.le_of_ble_eq_true rfl) (Nat.le_of_ble_eq_true rfl) dX8_value_12 ⟨_, rfl, hP⟩
