section STR
variable {p : Program} {l : Launch} {e : Env} {R : Room} {s : State} {m : MethodId} {args : Array Value} {below : List Frame} {meth : Method} {c : Code} {Q : State → Prop} {G : GG} {N0 : Nat} {own : String} {cc : ByteArray} {nL : Nat}
variable {σ : Hp} {cu su pc : Nat} {lv lv' : List (Nat × Value)} {st : List Value}
theorem V_getCS (X : EX p s m args meth c G N0 own cc nL) {index : Nat} (hl : Cond.fieldLink own index "java/lang/String" "COMPACT_STRINGS" "Z" ∈ wAll) (hd : decode cc pc = .ok (.getstatic index, 3)) (k : V p l e R s m args below meth c Q G N0 nL σ cu su (pc + 3) lv (.int 1 :: st)) : V p l e R s m args below meth c Q G N0 nL σ cu su pc lv st := fun H locs ls hH hS hL =>
  va_gets (A := AN N0) X.1 X.2.1 X.2.2.2.2.2.2.1.2.2.2.2.2.1 hS X.2.2.2.1 (X.2.2.2.2.1 _ hl) (fun _ h => h) hd (k H locs ls hH hS hL)
theorem V_getSF (X : EX p s m args meth c G N0 own cc nL) {index : Nat} (hl : Cond.fieldLink own index "jdk/internal/util/Preconditions" "SIOOBE_FORMATTER" "Ljava/util/function/BiFunction;" ∈ wAll) (hd : decode cc pc = .ok (.getstatic index, 3)) (k : ∀ x : Option Nat, V p l e R s m args below meth c Q G N0 nL σ cu su (pc + 3) lv (va_rf x :: st)) : V p l e R s m args below meth c Q G N0 nL σ cu su pc lv st := fun H locs ls hH hS hL => by
  rcases X.2.2.2.2.2.2.1.2.2.2.2.2.2 with h | ⟨t, h⟩
  · exact va_gets (A := AN N0) X.1 X.2.1 h hS X.2.2.2.1 (X.2.2.2.2.1 _ hl) (fun _ h => h) hd (k none H locs ls hH hS hL)
  · exact va_gets (A := AN N0) X.1 X.2.1 h hS X.2.2.2.1 (X.2.2.2.2.1 _ hl) (fun _ h => h) hd (k (some t) H locs ls hH hS hL)
theorem V_strv (X : EX p s m args meth c G N0 own cc nL) {index w : Nat} (hw : w < 3) (hl : Cond.fieldLink own index "java/lang/String" "value" "[B" ∈ wAll) (hd : decode cc pc = .ok (.getfield index, 3)) (k : V p l e R s m args below meth c Q G N0 nL σ cu su (pc + 3) lv (.ref (G.2.2.2 w) :: st)) : V p l e R s m args below meth c Q G N0 nL σ cu su pc lv (.ref (G.2.2.1 w) :: st) := fun H locs ls hH hS hL =>
  vk_getf (A := AN N0) X.1 X.2.1 (X.2.2.2.2.2.2.1.2.2.2.2.1.1 w hw).2.2.1 hS X.2.2.2.1 (X.2.2.2.2.1 _ hl) (fun _ h => h) hd (k H locs ls hH hS hL)
theorem V_strc (X : EX p s m args meth c G N0 own cc nL) {index w : Nat} (hw : w < 3) (hl : Cond.fieldLink own index "java/lang/String" "coder" "B" ∈ wAll) (hd : decode cc pc = .ok (.getfield index, 3)) (k : V p l e R s m args below meth c Q G N0 nL σ cu su (pc + 3) lv (.int 0 :: st)) : V p l e R s m args below meth c Q G N0 nL σ cu su pc lv (.ref (G.2.2.1 w) :: st) := fun H locs ls hH hS hL =>
  vk_getf (A := AN N0) X.1 X.2.1 (X.2.2.2.2.2.2.1.2.2.2.2.1.1 w hw).2.1 hS X.2.2.2.1 (X.2.2.2.2.1 _ hl) (fun _ h => h) hd (k H locs ls hH hS hL)
theorem V_balen (X : EX p s m args meth c G N0 own cc nL) {w : Nat} (hw : w < 3) (hd : decode cc pc = .ok (.arraylength, 1)) (k : V p l e R s m args below meth c Q G N0 nL σ cu su (pc + 1) lv (.int (Int32.ofNat (strL.getD w 0)) :: st)) : V p l e R s m args below meth c Q G N0 nL σ cu su pc lv (.ref (G.2.2.2 w) :: st) := fun H locs ls hH hS hL =>
  va_tlen (A := AN N0) X.1 X.2.1 (X.2.2.2.2.2.2.1.2.2.2.2.1.1 w hw).2.2.2 hS rfl hd (k H locs ls hH hS hL)
theorem V_bald (X : EX p s m args meth c G N0 own cc nL) {w : Nat} {j : Int32} (hw : w < 3) (hj : vp_in j (strL.getD w 0)) (hd : decode cc pc = .ok (.baload, 1)) (k : V p l e R s m args below meth c Q G N0 nL σ cu su (pc + 1) lv (.int ((strB.getD w []).getD j.toNatClampNeg 0) :: st)) : V p l e R s m args below meth c Q G N0 nL σ cu su pc lv (.int j :: .ref (G.2.2.2 w) :: st) := fun H locs ls hH hS hL =>
  va_tb (A := AN N0) X.1 X.2.1 (X.2.2.2.2.2.2.1.2.2.2.2.1.1 w hw).2.2.2 hS hj rfl hd (k H locs ls hH hS hL)
theorem V_i2c (X : EX p s m args meth c G N0 own cc nL) {x : Int32} (hd : decode cc pc = .ok (.i2c, 1)) (k : V p l e R s m args below meth c Q G N0 nL σ cu su (pc + 1) lv (.int (x.toUInt32 % 65536).toInt32 :: st)) : V p l e R s m args below meth c Q G N0 nL σ cu su pc lv (.int x :: st) := fun H locs ls hH hS hL =>
  lv_i2c X.1 X.2.1 hd rfl (k H locs ls hH hS hL)
theorem V_iretG (X : EX p s m args meth c G N0 own cc nL) {mc ms : Nat} {v : Int32} {ty : FieldType} {post : Option Value → Hp → Prop} (hr : meth.sig.returnType = some ty) (hn : narrow ty (.int v) = .int v) (hc : cu ≤ mc) (hs : su ≤ ms) (hd : decode cc pc = .ok (.ireturn, 1)) (hp : post (some (.int v)) σ) : V p l e R s m args below meth c (MQ below (QC G N0 post) args s mc ms (AN N0)) G N0 nL σ cu su pc lv [.int v] := fun H locs ls hH hS hL =>
  W.widen hc hs (W.zret X.1 X.2.1 hr hn (qc_end hp hH hS) hS.2.2 hd X.2.2.2.2.2.1)
/-- a call on a String constant -/
theorem V_callW_i (X : EX p s m args meth c G N0 own cc nL) {index maxL fr lo mc ms n w : Nat} {y : MethodName} {bytes : ByteArray} {ret : Option FieldType} (As : List Value) {stk : List Value} {P : Int32 → Hp → Prop} (hw3 : w < 3) (hy : y.cls = "java/lang/String") (hw : CW own index y bytes maxL ret n) (hinst : Cond.instanceMethod y ∈ wAll) (hsel : Cond.selects y.cls y y ∈ lw_tbl) (hsg : goodWord (Cond.selects y.cls y y) = true)
    (hM : MM l G N0 y bytes maxL ret fr lo mc ms (.ref (G.2.2.1 w) :: As) σ (pI P)) (hn : As.length = n) (hR : fr + 1 ≤ R.frames ∧ 8 + (maxL + 11) + lo ≤ R.locals) (hcat : (st.map fun v => v.category).sum ≤ 8) (hf : cu + mc ≤ R.cells ∧ su + ms ≤ R.slots) (hstk : stk = As.reverse ++ .ref (G.2.2.1 w) :: st) (hd : decode cc pc = .ok (.invokevirtual index, 3))
    (kk : ∀ (r : Int32) (σ' : Hp), P r σ' → V p l e R s m args below meth c Q G N0 nL σ' (cu + mc) (su + ms) (pc + 3) lv (.int r :: st)) : V p l e R s m args below meth c Q G N0 nL σ cu su pc lv stk := by
  intro H locs ls hH hS hL
  obtain ⟨h1, h2, h3, h4, h5, h6⟩ := hw
  have hts := X.2.2.2.2.1
  refine V_back X hS hL (va_runV (C := y.cls) (As := As) (b := G.2.2.1 w) ⟨X.1, X.2.1, X.2.2.1, X.2.2.2.1, hts⟩ hM ⟨callB_of n hts (goodIn_code h3) rfl rfl rfl (hts _ h2) (hts _ h1) ⟨h4, h5, h6⟩ hR, hts _ hinst, hts _ (wm hsel hsg)⟩ ⟨blind_PB, ?_, fun U hU hW => ⟨rfl, pre_call X hH hS U hU hW⟩⟩ rfl hn hL.1 hstk (lv_room hcat) hd hf) (fun v σ' hv => by
    obtain ⟨r, rfl, hp⟩ := hv
    exact kk r σ' hp)
  rw [hy]
  exact vk_recv X.2.2.2.2.2.2.1.2.2.2.2.1 hw3 hS
end STR
theorem m_coder (l : Launch) (G : GG) (N0 w : Nat) (hw : w < 3) (σ : Hp) (P : Int32 → Hp → Prop) (hP : P 0 σ) : MM l G N0 yJ0_coder_7d493 cJ0_coder_7d493 1 (some .byte) 0 0 0 0 [.ref (G.2.2.1 w)] σ (pI P) := by
  refine MM.of (by decide) (Nat.le_of_ble_eq_true rfl) ?_
  intro p e s m args below meth c X hr hnm
  refine V.to (lv2 := [(0, .ref (G.2.2.1 w))]) [0] rfl rfl ?_
  refine V_getCS X kg_RJ0_38 dJ0_coder_7d493_0 ?_
  refine V_if_eq X (tgt := 13) dJ0_coder_7d493_3 (by decide) (fun h => absurd h (by decide)) (fun h => ?_)
  refine V_aload_n X dJ0_coder_7d493_6 rfl 0 rfl ?_
  refine V_strc X hw kg_RJ0_15 dJ0_coder_7d493_7 ?_
  refine V_goto X (tgt := 14) dJ0_coder_7d493_10 (by decide) ?_
  exact V_iretG X hr rfl (Nat.le_of_ble_eq_true rfl) (Nat.le_of_ble_eq_true rfl) dJ0_coder_7d493_14 ⟨_, rfl, hP⟩
theorem m_isLatin1 (l : Launch) (G : GG) (N0 w : Nat) (hw : w < 3) (σ : Hp) (P : Int32 → Hp → Prop) (hP : P 1 σ) : MM l G N0 yJ0_isLatin1_aae02 cJ0_isLatin1_aae02 1 (some .boolean) 0 0 0 0 [.ref (G.2.2.1 w)] σ (pI P) := by
  refine MM.of (by decide) (Nat.le_of_ble_eq_true rfl) ?_
  intro p e s m args below meth c X hr hnm
  refine V.to (lv2 := [(0, .ref (G.2.2.1 w))]) [0] rfl rfl ?_
  refine V_getCS X kg_RJ0_38 dJ0_isLatin1_aae02_0 ?_
  refine V_if_eq X (tgt := 17) dJ0_isLatin1_aae02_3 (by decide) (fun h => absurd h (by decide)) (fun h => ?_)
  refine V_aload_n X dJ0_isLatin1_aae02_6 rfl 0 rfl ?_
  refine V_strc X hw kg_RJ0_15 dJ0_isLatin1_aae02_7 ?_
  refine V_if_ne X (tgt := 17) dJ0_isLatin1_aae02_10 (by decide) (fun h => absurd rfl h) (fun h => ?_)
  refine V_iconst X (v := (1 : Int32)) dJ0_isLatin1_aae02_13 (by decide) ?_
  refine V_goto X (tgt := 18) dJ0_isLatin1_aae02_14 (by decide) ?_
  exact V_iretG X hr rfl (Nat.le_of_ble_eq_true rfl) (Nat.le_of_ble_eq_true rfl) dJ0_isLatin1_aae02_18 ⟨_, rfl, hP⟩
theorem m_strlen (l : Launch) (G : GG) (N0 w : Nat) (hw : w < 3) (σ : Hp) (P : Int32 → Hp → Prop) (hP : P (nI (strL.getD w 0)) σ) : MM l G N0 yJ0_length_8abf5 cJ0_length_8abf5 1 (some .int) 1 20 0 0 [.ref (G.2.2.1 w)] σ (pI P) := by
  refine MM.of (by decide) (Nat.le_of_ble_eq_true rfl) ?_
  intro p e s m args below meth c X hr hnm
  refine V.to (lv2 := [(0, .ref (G.2.2.1 w))]) [0] rfl rfl ?_
  refine V_aload_n X dJ0_length_8abf5_0 rfl 0 rfl ?_
  refine V_strv X hw kg_RJ0_9 dJ0_length_8abf5_1 ?_
  refine V_balen X hw dJ0_length_8abf5_4 ?_
  refine V_aload_n X dJ0_length_8abf5_5 rfl 0 rfl ?_
  refine V_callW_i X [] (P := fun r τ => r = 0 ∧ τ = σ) hw rfl kw_RJ0_335 ki_J0_coder_7d493 ks_J0_coder_7d493 ksg_J0_coder_7d493 (m_coder l G N0 w hw σ _ ⟨rfl, rfl⟩) rfl ⟨Nat.le_of_ble_eq_true rfl, Nat.le_of_ble_eq_true rfl⟩ (Nat.le_of_ble_eq_true rfl) ⟨Nat.le_of_ble_eq_true rfl, Nat.le_of_ble_eq_true rfl⟩ rfl dJ0_length_8abf5_6 (fun r τ h => ?_)
  obtain ⟨rfl, rfl⟩ := h
  refine V_ishr X dJ0_length_8abf5_9 ?_
  refine V_iretG X hr rfl (Nat.le_of_ble_eq_true rfl) (Nat.le_of_ble_eq_true rfl) dJ0_length_8abf5_10 ⟨_, rfl, ?_⟩
  have h1 : strL.getD w 0 < 2 ^ 31 := by
    rcases (show w = 0 ∨ w = 1 ∨ w = 2 by omega) with rfl | rfl | rfl <;> decide
  rw [show Int32.ofNat (strL.getD w 0) = nI (strL.getD w 0) from rfl, sc_shr0 h1]
  exact hP
theorem m_pchk (l : Launch) (G : GG) (N0 : Nat) (i n : Int32) (x : Option Nat) (h0 : ¬ i < 0) (h1 : i < n) (σ : Hp) (P : Int32 → Hp → Prop) (hP : P i σ) : MM l G N0 yJ3_checkIndex_8e157 cJ3_checkIndex_8e157 3 (some .int) 0 0 0 0 [.int i, .int n, va_rf x] σ (pI P) := by
  refine MM.of (by decide) (by cases x <;> exact Nat.le_of_ble_eq_true rfl) ?_
  intro p e s m args below meth c X hr hnm
  refine V.to (lv2 := [(0, .int i), (1, .int n)]) [0, 1] (by cases x <;> rfl) rfl ?_
  refine V_iload_n X dJ3_checkIndex_8e157_0 rfl 0 rfl ?_
  refine V_if_lt X (tgt := 9) dJ3_checkIndex_8e157_1 (by decide) (fun h => absurd h h0) (fun h => ?_)
  refine V_iload_n X dJ3_checkIndex_8e157_4 rfl 0 rfl ?_
  refine V_iload_n X dJ3_checkIndex_8e157_5 rfl 1 rfl ?_
  refine V_icmp_lt X (tgt := 16) dJ3_checkIndex_8e157_6 (by decide) (fun h => ?_) (fun h => absurd h1 h)
  refine V_iload_n X dJ3_checkIndex_8e157_16 rfl 0 rfl ?_
  exact V_iretG X hr rfl (Nat.le_of_ble_eq_true rfl) (Nat.le_of_ble_eq_true rfl) dJ3_checkIndex_8e157_17 ⟨_, rfl, hP⟩
theorem m_scheck (l : Launch) (G : GG) (N0 : Nat) (i n : Int32) (h0 : ¬ i < 0) (h1 : i < n) (σ : Hp) (P : Hp → Prop) (hP : P σ) : MM l G N0 yJ0_checkIndex_df160 cJ0_checkIndex_df160 2 none 1 22 0 0 [.int i, .int n] σ (pV P) := by
  refine MM.of (by decide) (Nat.le_of_ble_eq_true rfl) ?_
  intro p e s m args below meth c X hr hnm
  refine V.to (lv2 := [(0, .int i), (1, .int n)]) [0, 1] rfl rfl ?_
  refine V_iload_n X dJ0_checkIndex_df160_0 rfl 0 rfl ?_
  refine V_iload_n X dJ0_checkIndex_df160_1 rfl 1 rfl ?_
  refine V_getSF X kg_RJ0_1053 dJ0_checkIndex_df160_2 (fun x => ?_)
  refine V_callS_i X [.int i, .int n, va_rf x] (P := fun r τ => τ = σ) kw_RJ0_1059 ki_J3_checkIndex_8e157 (m_pchk l G N0 i n x h0 h1 σ _ rfl) rfl ⟨Nat.le_of_ble_eq_true rfl, Nat.le_of_ble_eq_true rfl⟩ (Nat.le_of_ble_eq_true rfl) ⟨Nat.le_of_ble_eq_true rfl, Nat.le_of_ble_eq_true rfl⟩ rfl dJ0_checkIndex_df160_5 (fun r τ h => ?_)
  subst h
  refine V_pop X dJ0_checkIndex_df160_8 rfl ?_
  exact V_vret X hr (Nat.le_of_ble_eq_true rfl) (Nat.le_of_ble_eq_true rfl) dJ0_checkIndex_df160_9 ⟨rfl, hP⟩
theorem str_ok : ∀ w, w < 3 → ∀ j, j < strL.getD w 0 → ((((strB.getD w []).getD j 0) &&& 255).toUInt32 % 65536).toInt32 = (strB.getD w []).getD j 0 ∧ narrow .char (.int ((strB.getD w []).getD j 0)) = .int ((strB.getD w []).getD j 0) := by
  intro w hw
  rcases (show w = 0 ∨ w = 1 ∨ w = 2 by omega) with rfl | rfl | rfl
  · intro j hj
    have hj : j < 1 := hj
    rcases (show j = 0 by omega) with rfl
    exact ⟨by decide, rfl⟩
  · intro j hj
    have hj : j < 2 := hj
    rcases (show j = 0 ∨ j = 1 by omega) with rfl | rfl <;> exact ⟨by decide, rfl⟩
  · intro j hj
    have hj : j < 4 := hj
    rcases (show j = 0 ∨ j = 1 ∨ j = 2 ∨ j = 3 by omega) with rfl | rfl | rfl | rfl <;> exact ⟨by decide, rfl⟩
theorem vp_in_lt {j : Int32} {n : Nat} (h : vp_in j n) (hn : n < 2 ^ 31) : ¬ j < 0 ∧ j < nI n ∧ j.toNatClampNeg < n := by
  obtain ⟨k, hk, rfl⟩ := vp_in_of h hn
  exact ⟨nI_pos (by omega), nI_lt hk hn, by rw [nI_clamp (by omega)]; exact hk⟩
theorem strL_small : ∀ w, w < 3 → strL.getD w 0 < 2 ^ 31 := by
  intro w hw
  rcases (show w = 0 ∨ w = 1 ∨ w = 2 by omega) with rfl | rfl | rfl <;> decide
theorem m_lchar (l : Launch) (G : GG) (N0 w : Nat) (hw : w < 3) (j : Int32) (hj : vp_in j (strL.getD w 0)) (σ : Hp) (P : Int32 → Hp → Prop) (hP : P ((strB.getD w []).getD j.toNatClampNeg 0) σ) : MM l G N0 yJ1_charAt_3b067 cJ1_charAt_3b067 2 (some .char) 2 43 0 0 [.ref (G.2.2.2 w), .int j] σ (pI P) := by
  refine MM.of (by decide) (Nat.le_of_ble_eq_true rfl) ?_
  intro p e s m args below meth c X hr hnm
  obtain ⟨h0, h1, h2⟩ := vp_in_lt hj (strL_small w hw)
  refine V.to (lv2 := [(0, .ref (G.2.2.2 w)), (1, .int j)]) [0, 1] rfl rfl ?_
  refine V_iload_n X dJ1_charAt_3b067_0 rfl 1 rfl ?_
  refine V_aload_n X dJ1_charAt_3b067_1 rfl 0 rfl ?_
  refine V_balen X hw dJ1_charAt_3b067_2 ?_
  refine V_callS_v X [.int j, .int (Int32.ofNat (strL.getD w 0))] (P := fun τ => τ = σ) kw_RJ1_9 ki_J0_checkIndex_df160 (m_scheck l G N0 j _ h0 h1 σ _ rfl) rfl ⟨Nat.le_of_ble_eq_true rfl, Nat.le_of_ble_eq_true rfl⟩ (Nat.le_of_ble_eq_true rfl) ⟨Nat.le_of_ble_eq_true rfl, Nat.le_of_ble_eq_true rfl⟩ rfl dJ1_charAt_3b067_3 (fun τ h => ?_)
  subst h
  refine V_aload_n X dJ1_charAt_3b067_6 rfl 0 rfl ?_
  refine V_iload_n X dJ1_charAt_3b067_7 rfl 1 rfl ?_
  refine V_bald X hw hj dJ1_charAt_3b067_8 ?_
  refine V_sipush X (v := (255 : Int32)) dJ1_charAt_3b067_9 (by decide) ?_
  refine V_iand X dJ1_charAt_3b067_12 ?_
  refine V_i2c X dJ1_charAt_3b067_13 ?_
  obtain ⟨h3, h4⟩ := str_ok w hw _ h2
  rw [h3]
  exact V_iretG X hr h4 (Nat.le_of_ble_eq_true rfl) (Nat.le_of_ble_eq_true rfl) dJ1_charAt_3b067_14 ⟨_, rfl, hP⟩
theorem m_charAt (l : Launch) (G : GG) (N0 w : Nat) (hw : w < 3) (j : Int32) (hj : vp_in j (strL.getD w 0)) (σ : Hp) (P : Int32 → Hp → Prop) (hP : P ((strB.getD w []).getD j.toNatClampNeg 0) σ) : MM l G N0 yJ0_charAt_5068e cJ0_charAt_5068e 2 (some .char) 3 64 0 0 [.ref (G.2.2.1 w), .int j] σ (pI P) := by
  refine MM.of (by decide) (Nat.le_of_ble_eq_true rfl) ?_
  intro p e s m args below meth c X hr hnm
  refine V.to (lv2 := [(0, .ref (G.2.2.1 w)), (1, .int j)]) [0, 1] rfl rfl ?_
  refine V_aload_n X dJ0_charAt_5068e_0 rfl 0 rfl ?_
  refine V_callW_i X [] (P := fun r τ => r = 1 ∧ τ = σ) hw rfl kw_RJ0_492 ki_J0_isLatin1_aae02 ks_J0_isLatin1_aae02 ksg_J0_isLatin1_aae02 (m_isLatin1 l G N0 w hw σ _ ⟨rfl, rfl⟩) rfl ⟨Nat.le_of_ble_eq_true rfl, Nat.le_of_ble_eq_true rfl⟩ (Nat.le_of_ble_eq_true rfl) ⟨Nat.le_of_ble_eq_true rfl, Nat.le_of_ble_eq_true rfl⟩ rfl dJ0_charAt_5068e_1 (fun r τ h => ?_)
  obtain ⟨rfl, rfl⟩ := h
  refine V_if_eq X (tgt := 16) dJ0_charAt_5068e_4 (by decide) (fun h => absurd h (by decide)) (fun h => ?_)
  refine V_aload_n X dJ0_charAt_5068e_7 rfl 0 rfl ?_
  refine V_strv X hw kg_RJ0_9 dJ0_charAt_5068e_8 ?_
  refine V_iload_n X dJ0_charAt_5068e_11 rfl 1 rfl ?_
  refine V_callS_i X [.ref (G.2.2.2 w), .int j] (P := fun r τ' => r = (strB.getD w []).getD j.toNatClampNeg 0 ∧ τ' = τ) kw_RJ0_495 ki_J1_charAt_3b067 (m_lchar l G N0 w hw j hj τ _ ⟨rfl, rfl⟩) rfl ⟨Nat.le_of_ble_eq_true rfl, Nat.le_of_ble_eq_true rfl⟩ (Nat.le_of_ble_eq_true rfl) ⟨Nat.le_of_ble_eq_true rfl, Nat.le_of_ble_eq_true rfl⟩ rfl dJ0_charAt_5068e_12 (fun r τ' h => ?_)
  obtain ⟨rfl, rfl⟩ := h
  obtain ⟨h0, h1, h2⟩ := vp_in_lt hj (strL_small w hw)
  exact V_iretG X hr (str_ok w hw _ h2).2 (Nat.le_of_ble_eq_true rfl) (Nat.le_of_ble_eq_true rfl) dJ0_charAt_5068e_15 ⟨_, rfl, hP⟩
section STR2
variable {p : Program} {l : Launch} {e : Env} {R : Room} {s : State} {m : MethodId} {args : Array Value} {below : List Frame} {meth : Method} {c : Code} {Q : State → Prop} {G : GG} {N0 : Nat} {own : String} {cc : ByteArray} {nL : Nat}
variable {σ : Hp} {cu su pc : Nat} {lv lv' : List (Nat × Value)} {st : List Value}
theorem V_strlen (X : EX p s m args meth c G N0 own cc nL) {index w : Nat} (hw : w < 3) (hl : Cond.methodLink own index yJ0_length_8abf5 ∈ wAll) (hcat : (st.map fun v => v.category).sum ≤ 8) (hR : 8 ≤ R.frames ∧ 300 ≤ R.locals) (hf : cu ≤ R.cells ∧ su ≤ R.slots) (hd : decode cc pc = .ok (.invokevirtual index, 3)) (k : V p l e R s m args below meth c Q G N0 nL σ cu su (pc + 3) lv (.int (nI (strL.getD w 0)) :: st)) : V p l e R s m args below meth c Q G N0 nL σ cu su pc lv (.ref (G.2.2.1 w) :: st) := by
  refine V_callW_i X [] (P := fun r τ => r = nI (strL.getD w 0) ∧ τ = σ) hw rfl ⟨hl, kx_J0_length_8abf5, kc_J0_length_8abf5, by decide, by decide, by decide +kernel⟩ ki_J0_length_8abf5 ks_J0_length_8abf5 ksg_J0_length_8abf5 (m_strlen l G N0 w hw σ _ ⟨rfl, rfl⟩) rfl ⟨by omega, by omega⟩ hcat hf rfl hd (fun r τ h => ?_)
  obtain ⟨rfl, rfl⟩ := h
  exact k
theorem V_strchr (X : EX p s m args meth c G N0 own cc nL) {index w : Nat} {j : Int32} (hw : w < 3) (hj : vp_in j (strL.getD w 0)) (hl : Cond.methodLink own index yJ0_charAt_5068e ∈ wAll) (hcat : (st.map fun v => v.category).sum ≤ 8) (hR : 8 ≤ R.frames ∧ 300 ≤ R.locals) (hf : cu ≤ R.cells ∧ su ≤ R.slots) (hd : decode cc pc = .ok (.invokevirtual index, 3)) (k : V p l e R s m args below meth c Q G N0 nL σ cu su (pc + 3) lv (.int ((strB.getD w []).getD j.toNatClampNeg 0) :: st)) : V p l e R s m args below meth c Q G N0 nL σ cu su pc lv (.int j :: .ref (G.2.2.1 w) :: st) := by
  refine V_callW_i X (n := 1) [.int j] (P := fun r τ => r = (strB.getD w []).getD j.toNatClampNeg 0 ∧ τ = σ) hw rfl ⟨hl, kx_J0_charAt_5068e, kc_J0_charAt_5068e, by decide, by decide, by decide +kernel⟩ ki_J0_charAt_5068e ks_J0_charAt_5068e ksg_J0_charAt_5068e (m_charAt l G N0 w hw j hj σ _ ⟨rfl, rfl⟩) rfl ⟨by omega, by omega⟩ hcat hf rfl hd (fun r τ h => ?_)
  obtain ⟨rfl, rfl⟩ := h
  exact k
end STR2
