theorem kins_0 : Cond.instantiable RX0 2 ∈ lw_tbl := List.mem_of_getElem? (i := 80) (by decide +kernel)
theorem kins_1 : Cond.instantiable RX1 3 ∈ lw_tbl := List.mem_of_getElem? (i := 138) (by decide +kernel)
theorem kins_2 : Cond.instantiable RX2 4 ∈ lw_tbl := List.mem_of_getElem? (i := 351) (by decide +kernel)
theorem kins_3 : Cond.instantiable RX3 2 ∈ lw_tbl := List.mem_of_getElem? (i := 585) (by decide +kernel)
theorem kins_4 : Cond.instantiable RX4 6 ∈ lw_tbl := List.mem_of_getElem? (i := 229) (by decide +kernel)
theorem kins_5 : Cond.instantiable RX5 2 ∈ lw_tbl := List.mem_of_getElem? (i := 65) (by decide +kernel)
theorem kins_6 : Cond.instantiable RX6 7 ∈ lw_tbl := List.mem_of_getElem? (i := 110) (by decide +kernel)
theorem kins_7 : Cond.instantiable RX7 2 ∈ lw_tbl := List.mem_of_getElem? (i := 94) (by decide +kernel)
theorem kins_8 : Cond.instantiable RX8 13 ∈ lw_tbl := List.mem_of_getElem? (i := 57) (by decide +kernel)
theorem kins_9 : Cond.instantiable RX9 55 ∈ lw_tbl := List.mem_of_getElem? (i := 688) (by decide +kernel)
theorem knest_RX8_11 : Cond.methodLinkNest RX8 11 yX5_init RX8 ∈ lw_tbl := List.mem_of_getElem? (i := 66) (by decide +kernel)
theorem knest_RX8_18 : Cond.methodLinkNest RX8 18 yX0_init RX8 ∈ lw_tbl := List.mem_of_getElem? (i := 81) (by decide +kernel)
theorem knest_RX8_25 : Cond.methodLinkNest RX8 25 yX7_init RX8 ∈ lw_tbl := List.mem_of_getElem? (i := 95) (by decide +kernel)
theorem knest_RX8_38 : Cond.methodLinkNest RX8 38 yX6_init RX8 ∈ lw_tbl := List.mem_of_getElem? (i := 111) (by decide +kernel)
theorem knest_RX8_64 : Cond.methodLinkNest RX8 64 yX1_init RX8 ∈ lw_tbl := List.mem_of_getElem? (i := 139) (by decide +kernel)
theorem knest_RX3_9 : Cond.methodLinkNest RX3 9 yX1_init RX8 ∈ lw_tbl := List.mem_of_getElem? (i := 591) (by decide +kernel)
theorem knest_RX1_27 : Cond.methodLinkNest RX1 27 yX8_isValue RX8 ∈ lw_tbl := List.mem_of_getElem? (i := 634) (by decide +kernel)
theorem kao_row : Cond.arrayOver (.object "PaperRows$Row") ∈ lw_tbl := List.mem_of_getElem? (i := 71) (by decide +kernel)
theorem kao_rd : Cond.arrayOver (.object "PaperRows$Reader") ∈ lw_tbl := List.mem_of_getElem? (i := 108) (by decide +kernel)
theorem kstr_0 : Cond.stringRef RX2 64 "v" ∈ lw_tbl := List.mem_of_getElem? (i := 419) (by decide +kernel)
theorem kstr_1 : Cond.stringRef RX2 74 "up" ∈ lw_tbl := List.mem_of_getElem? (i := 476) (by decide +kernel)
theorem kstr_2 : Cond.stringRef RX2 76 "down" ∈ lw_tbl := List.mem_of_getElem? (i := 477) (by decide +kernel)
theorem kst_cs : Cond.laysStatic "java/lang/String" "COMPACT_STRINGS" "Z" ∈ lw_tbl := List.mem_of_getElem? (i := 433) (by decide +kernel)
theorem kst_sf : Cond.laysStatic "jdk/internal/util/Preconditions" "SIOOBE_FORMATTER" "Ljava/util/function/BiFunction;" ∈ lw_tbl := List.mem_of_getElem? (i := 449) (by decide +kernel)
theorem kini_s : Cond.initialized "java/lang/String" ∈ lw_tbl := List.mem_of_getElem? (i := 51) (by decide +kernel)
theorem kini_p : Cond.initialized "jdk/internal/util/Preconditions" ∈ lw_tbl := List.mem_of_getElem? (i := 53) (by decide +kernel)
def σE : Hp := (fun _ => none, fun _ _ => 0, fun _ _ => 0, fun _ _ => none)
theorem arr_prim {s : State} {args : Array Value} {ty : FieldType} (hty : ty = .int ∨ ty = .boolean) (h : (Cond.arrayClass ty).before args s = true) : ∃ cA, ArrOfT s cA ty ∧ va_RA s cA ty := by
  obtain ⟨cA, kA, comp, h1, h2, h3⟩ := Cond.arrayClass_spec (args := args) (first := s) (o := none) (s := s) (idx := []) h
  refine ⟨cA, fun n z => ⟨fun k h => (by cases h), kA, h2, comp, h3⟩, ?_⟩
  rcases hty with rfl | rfl <;> exact h1
theorem arr_obj {s : State} {args : Array Value} {C : String} (h : (Cond.arrayOver (.object C)).before args s = true) : ∃ cA, ArrOfT s cA (.object C) ∧ va_RA s cA (.object C) := by
  obtain ⟨comp, cA, kA, h1, h2, h3, h4, h5⟩ := Cond.arrayOver_spec h
  exact ⟨cA, fun n z => ⟨fun k h => (by cases h), kA, h3, comp, h4⟩, kA, comp, h3, h4, h1, h5⟩
def tmS (i : Nat) : Term := match i with
  | 0 => .string RX2 64
  | 1 => .string RX2 74
  | _ => .string RX2 76
theorem lt3 {P : Nat → Prop} (h0 : P 0) (h1 : P 1) (h2 : P 2) : ∀ i, i < 3 → P i := by
  intro i hi
  rcases (show i = 0 ∨ i = 1 ∨ i = 2 by omega) with rfl | rfl | rfl <;> assumption
set_option maxRecDepth 100000 in
theorem GE_start {p : Program} {s : State} {m : MethodId} {meth : Method} {c : Code} {b L : Nat} {xs : Nat → Int32} (C0 : lw_At p s m meth c b L xs) : ∃ G : GG, GE G s.heap.size s := by
  obtain ⟨hx, hb, hr, hml, hown, hts, hX, hbl, hlocks, hgv⟩ := id C0
  have hq := flat_of_before _ hgv
  have hA : ∀ a : Nat, a < s.heap.size → ¬ AN s.heap.size a := fun a h => Nat.not_le.mpr h
  obtain ⟨c0, iS0, hKn0⟩ := u_known (C := RX0) (T := TX0) (N := 2) (n := 2) hts (fun w h => (List.mem_filter.mp (hin0 w h)).1) (hts _ kins_0)
  obtain ⟨c1, iS1, hKn1⟩ := u_known (C := RX1) (T := TX1) (N := 3) (n := 3) hts (fun w h => (List.mem_filter.mp (hin1 w h)).1) (hts _ kins_1)
  obtain ⟨c2, iS2, hKn2⟩ := u_known (C := RX2) (T := TX2) (N := 4) (n := 4) hts (fun w h => (List.mem_filter.mp (hin2 w h)).1) (hts _ kins_2)
  obtain ⟨c3, iS3, hKn3⟩ := u_known (C := RX3) (T := TX3) (N := 2) (n := 2) hts (fun w h => (List.mem_filter.mp (hin3 w h)).1) (hts _ kins_3)
  obtain ⟨c4, iS4, hKn4⟩ := u_known (C := RX4) (T := TX4) (N := 6) (n := 6) hts (fun w h => (List.mem_filter.mp (hin4 w h)).1) (hts _ kins_4)
  obtain ⟨c5, iS5, hKn5⟩ := u_known (C := RX5) (T := TX5) (N := 2) (n := 2) hts (fun w h => (List.mem_filter.mp (hin5 w h)).1) (hts _ kins_5)
  obtain ⟨c6, iS6, hKn6⟩ := u_known (C := RX6) (T := TX6) (N := 7) (n := 7) hts (fun w h => (List.mem_filter.mp (hin6 w h)).1) (hts _ kins_6)
  obtain ⟨c7, iS7, hKn7⟩ := u_known (C := RX7) (T := TX7) (N := 2) (n := 2) hts (fun w h => (List.mem_filter.mp (hin7 w h)).1) (hts _ kins_7)
  obtain ⟨c8, iS8, hKn8⟩ := u_known (C := RX8) (T := TX8) (N := 13) (n := 13) hts (fun w h => (List.mem_filter.mp (hin8 w h)).1) (hts _ kins_8)
  obtain ⟨c9, iS9, hKn9⟩ := u_known (C := RX9) (T := TX9) (N := 55) (n := 55) hts (fun w h => (List.mem_filter.mp (hin9 w h)).1) (hts _ kins_9)
  obtain ⟨dC, dI, hKc⟩ : ∃ (dC : Nat → ClassId) (dI : Nat → Nat → Nat), ∀ (k : Nat) (q : vw_C), vwCl[k]? = some q → u_Kn s q.1 q.2.1 q.2.2 (dC k) (dI k) := by
    refine ⟨fun k => if k = 0 then c0 else if k = 1 then c1 else if k = 2 then c2 else if k = 3 then c3 else if k = 4 then c4 else if k = 5 then c5 else if k = 6 then c6 else if k = 7 then c7 else if k = 8 then c8 else c9, fun k => if k = 0 then iS0 else if k = 1 then iS1 else if k = 2 then iS2 else if k = 3 then iS3 else if k = 4 then iS4 else if k = 5 then iS5 else if k = 6 then iS6 else if k = 7 then iS7 else if k = 8 then iS8 else iS9, ?_⟩
    intro k q hq
    match k, hq with
    | 0, hq => cases hq; exact hKn0
    | 1, hq => cases hq; exact hKn1
    | 2, hq => cases hq; exact hKn2
    | 3, hq => cases hq; exact hKn3
    | 4, hq => cases hq; exact hKn4
    | 5, hq => cases hq; exact hKn5
    | 6, hq => cases hq; exact hKn6
    | 7, hq => cases hq; exact hKn7
    | 8, hq => cases hq; exact hKn8
    | 9, hq => cases hq; exact hKn9
    | k + 10, hq => simp [vwCl] at hq
  obtain ⟨cI, hI1, hI2⟩ := arr_prim (Or.inl rfl) (hts _ (List.mem_filter.mp ka_int).1)
  obtain ⟨cZ, hZ1, hZ2⟩ := arr_prim (Or.inr rfl) (hts _ (List.mem_filter.mp ka_boolean).1)
  obtain ⟨cD, hD1, hD2⟩ := arr_obj (hts _ kao_rd)
  obtain ⟨cW, hW1, hW2⟩ := arr_obj (hts _ kao_row)
  obtain ⟨adK, adV, hS, hev⟩ := vk_Sof (args := #[Value.ref b]) (s := s) (N := 3) (tm := tmS) (len := strL) (byt := strB) (A := AN s.heap.size)
    (lt3 (by decide) (by decide) (by decide))
    (lt3 (hq _ (by decide +kernel)) (hq _ (by decide +kernel)) (hq _ (by decide +kernel)))
    (lt3 (hq _ (by decide +kernel)) (hq _ (by decide +kernel)) (hq _ (by decide +kernel)))
    (lt3 (hq _ (by decide +kernel)) (hq _ (by decide +kernel)) (hq _ (by decide +kernel)))
    (lt3 (hq _ (by decide +kernel)) (hq _ (by decide +kernel)) (hq _ (by decide +kernel)))
    (lt3 (fun j hj => by
        have hj : j < 1 := hj
        rcases (show j = 0 by omega) with rfl
        exact hq _ (by decide +kernel))
      (fun j hj => by
        have hj : j < 2 := hj
        rcases (show j = 0 ∨ j = 1 by omega) with rfl | rfl
        · exact hq _ (by decide +kernel)
        · exact hq _ (by decide +kernel))
      (fun j hj => by
        have hj : j < 4 := hj
        rcases (show j = 0 ∨ j = 1 ∨ j = 2 ∨ j = 3 by omega) with rfl | rfl | rfl | rfl
        · exact hq _ (by decide +kernel)
        · exact hq _ (by decide +kernel)
        · exact hq _ (by decide +kernel)
        · exact hq _ (by decide +kernel)))
    (fun i j hi hj hij => by
      have e01 := hq (Cond.not (Cond.eq (tmS 0) (tmS 1))) (by decide +kernel)
      have e02 := hq (Cond.not (Cond.eq (tmS 0) (tmS 2))) (by decide +kernel)
      have e12 := hq (Cond.not (Cond.eq (tmS 1) (tmS 2))) (by decide +kernel)
      rcases (show i = 0 ∨ i = 1 ∨ i = 2 by omega) with rfl | rfl | rfl <;> rcases (show j = 0 ∨ j = 1 ∨ j = 2 by omega) with rfl | rfl | rfl <;> first | exact absurd rfl hij | exact Or.inl (by assumption) | exact Or.inr (by assumption)) hA
  refine ⟨((dC, dI), fun t => if t = 10 then cI else if t = 11 then cZ else if t = 12 then cD else cW, adK, adV), ⟨hKc, fun k q hk => ?_⟩, ?_, ⟨va_AO.of (hts _ kao_row), va_AO.of (hts _ kao_rd)⟩, ⟨vk_R.of (hts _ kstr_0) (hev 0 (by decide)), vk_R.of (hts _ kstr_1) (hev 1 (by decide)), vk_R.of (hts _ kstr_2) (hev 2 (by decide))⟩, hS, ?_, ?_⟩
  · match k, hk with
    | 0, hk => cases hk; exact ⟨hI1, hI2⟩
    | 1, hk => cases hk; exact ⟨hZ1, hZ2⟩
    | 2, hk => cases hk; exact ⟨hD1, hD2⟩
    | 3, hk => cases hk; exact ⟨hW1, hW2⟩
    | k + 4, hk => simp [tysG] at hk
  · intro w hw
    simp only [nestW, List.mem_cons, List.not_mem_nil, or_false] at hw
    rcases hw with rfl | rfl | rfl | rfl | rfl | rfl | rfl
    · exact va_Nw.of rfl (hts _ knest_RX8_11)
    · exact va_Nw.of rfl (hts _ knest_RX8_18)
    · exact va_Nw.of rfl (hts _ knest_RX8_25)
    · exact va_Nw.of rfl (hts _ knest_RX8_38)
    · exact va_Nw.of rfl (hts _ knest_RX8_64)
    · exact va_Nw.of rfl (hts _ knest_RX1_27)
    · exact va_Nw.of rfl (hts _ knest_RX3_9)
  · exact va_Zof (hts _ kst_cs) (hts _ kini_s) (va_eqi (hq (Cond.eq (.static "java/lang/String" "COMPACT_STRINGS" "Z") (.int 1)) (by decide +kernel))) hA
  · exact va_Zqof (hts _ kst_sf) (hts _ kini_p) (hq (Cond.isRef (.static "jdk/internal/util/Preconditions" "SIOOBE_FORMATTER" "Ljava/util/function/BiFunction;")) (by decide +kernel)) hA
theorem whole_of {p : Program} {e : Env} {s : State} {m : MethodId} {below : List Frame} {meth : Method} {c : Code} (l : Launch) {b L : Nat} {xs : Nat → Int32} (hP : P_law L xs σE) (C0 : lw_At p s m meth c b L xs) : W p l e room_1 s m #[Value.ref b] below meth c s.heap [] 0 0 (lw_Z below #[Value.ref b] s) (entryFrame m ([Value.ref b] : List Value).toArray 4) := by
  obtain ⟨G, hG⟩ := GE_start C0
  obtain ⟨hx, hb, hr, hml, hown, hts, hX, hbl, hlocks, hgv⟩ := id C0
  have hX0 : EX p s m #[Value.ref b] meth c G s.heap.size R_law code 4 := ⟨hx, hb, hml, hown, fun w h => hts w (List.mem_filter.mp h).1, hlocks, hG, Nat.le_refl _⟩
  have hV := law_walk0 (below := below) (e := e) l hr hX0 hX hbl σE hP
  have hl := lv_entry ([.ref b]) (n := 4) (Nat.le_of_ble_eq_true rfl)
  rw [lg_entry_eq]
  refine hV s.heap [] _ ⟨[], fun a => ?_, fun k q h => by simp [va_pl] at h, fun i j p q h => by simp [va_pl] at h, fun k q h => by simp [va_pl] at h⟩ va_S.rf hl
  show (none : Option (Nat × Nat)) ≠ none ↔ a ∈ []
  simp
