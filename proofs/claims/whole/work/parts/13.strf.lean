theorem kc_J0_length_8abf5 : Cond.code yJ0_length_8abf5 cJ0_length_8abf5 1 (some .int) ∈ wAll := wmi 427 (by decide +kernel) (by decide +kernel)
theorem ki_J0_length_8abf5 : Cond.instanceMethod yJ0_length_8abf5 ∈ wAll := wmi 425 (by decide +kernel) (by decide +kernel)
theorem kx_J0_length_8abf5 : Cond.initialized yJ0_length_8abf5.cls ∈ wAll := wmi 51 (by decide +kernel) (by decide +kernel)
theorem ks_J0_length_8abf5 : Cond.selects yJ0_length_8abf5.cls yJ0_length_8abf5 yJ0_length_8abf5 ∈ lw_tbl := List.mem_of_getElem? (i := 426) (by decide +kernel)
theorem ksg_J0_length_8abf5 : goodWord (Cond.selects yJ0_length_8abf5.cls yJ0_length_8abf5 yJ0_length_8abf5) = true := by decide +kernel
theorem kc_J0_coder_7d493 : Cond.code yJ0_coder_7d493 cJ0_coder_7d493 1 (some .byte) ∈ wAll := wmi 431 (by decide +kernel) (by decide +kernel)
theorem ki_J0_coder_7d493 : Cond.instanceMethod yJ0_coder_7d493 ∈ wAll := wmi 429 (by decide +kernel) (by decide +kernel)
theorem kx_J0_coder_7d493 : Cond.initialized yJ0_coder_7d493.cls ∈ wAll := wmi 51 (by decide +kernel) (by decide +kernel)
theorem ks_J0_coder_7d493 : Cond.selects yJ0_coder_7d493.cls yJ0_coder_7d493 yJ0_coder_7d493 ∈ lw_tbl := List.mem_of_getElem? (i := 430) (by decide +kernel)
theorem ksg_J0_coder_7d493 : goodWord (Cond.selects yJ0_coder_7d493.cls yJ0_coder_7d493 yJ0_coder_7d493) = true := by decide +kernel
theorem kc_J0_charAt_5068e : Cond.code yJ0_charAt_5068e cJ0_charAt_5068e 2 (some .char) ∈ wAll := wmi 437 (by decide +kernel) (by decide +kernel)
theorem ki_J0_charAt_5068e : Cond.instanceMethod yJ0_charAt_5068e ∈ wAll := wmi 435 (by decide +kernel) (by decide +kernel)
theorem kx_J0_charAt_5068e : Cond.initialized yJ0_charAt_5068e.cls ∈ wAll := wmi 51 (by decide +kernel) (by decide +kernel)
theorem ks_J0_charAt_5068e : Cond.selects yJ0_charAt_5068e.cls yJ0_charAt_5068e yJ0_charAt_5068e ∈ lw_tbl := List.mem_of_getElem? (i := 436) (by decide +kernel)
theorem ksg_J0_charAt_5068e : goodWord (Cond.selects yJ0_charAt_5068e.cls yJ0_charAt_5068e yJ0_charAt_5068e) = true := by decide +kernel
theorem kc_J0_isLatin1_aae02 : Cond.code yJ0_isLatin1_aae02 cJ0_isLatin1_aae02 1 (some .boolean) ∈ wAll := wmi 441 (by decide +kernel) (by decide +kernel)
theorem ki_J0_isLatin1_aae02 : Cond.instanceMethod yJ0_isLatin1_aae02 ∈ wAll := wmi 439 (by decide +kernel) (by decide +kernel)
theorem kx_J0_isLatin1_aae02 : Cond.initialized yJ0_isLatin1_aae02.cls ∈ wAll := wmi 51 (by decide +kernel) (by decide +kernel)
theorem ks_J0_isLatin1_aae02 : Cond.selects yJ0_isLatin1_aae02.cls yJ0_isLatin1_aae02 yJ0_isLatin1_aae02 ∈ lw_tbl := List.mem_of_getElem? (i := 440) (by decide +kernel)
theorem ksg_J0_isLatin1_aae02 : goodWord (Cond.selects yJ0_isLatin1_aae02.cls yJ0_isLatin1_aae02 yJ0_isLatin1_aae02) = true := by decide +kernel
theorem kc_J1_charAt_3b067 : Cond.code yJ1_charAt_3b067 cJ1_charAt_3b067 2 (some .char) ∈ wAll := wmi 444 (by decide +kernel) (by decide +kernel)
theorem ki_J1_charAt_3b067 : Cond.static yJ1_charAt_3b067 ∈ wAll := wmi 443 (by decide +kernel) (by decide +kernel)
theorem kx_J1_charAt_3b067 : Cond.initialized yJ1_charAt_3b067.cls ∈ wAll := wmi 52 (by decide +kernel) (by decide +kernel)
theorem kc_J0_checkIndex_df160 : Cond.code yJ0_checkIndex_df160 cJ0_checkIndex_df160 2 none ∈ wAll := wmi 447 (by decide +kernel) (by decide +kernel)
theorem ki_J0_checkIndex_df160 : Cond.static yJ0_checkIndex_df160 ∈ wAll := wmi 446 (by decide +kernel) (by decide +kernel)
theorem kx_J0_checkIndex_df160 : Cond.initialized yJ0_checkIndex_df160.cls ∈ wAll := wmi 51 (by decide +kernel) (by decide +kernel)
theorem kc_J3_checkIndex_8e157 : Cond.code yJ3_checkIndex_8e157 cJ3_checkIndex_8e157 3 (some .int) ∈ wAll := wmi 452 (by decide +kernel) (by decide +kernel)
theorem ki_J3_checkIndex_8e157 : Cond.static yJ3_checkIndex_8e157 ∈ wAll := wmi 451 (by decide +kernel) (by decide +kernel)
theorem kx_J3_checkIndex_8e157 : Cond.initialized yJ3_checkIndex_8e157.cls ∈ wAll := wmi 53 (by decide +kernel) (by decide +kernel)
theorem kw_RJ0_335 : CW RJ0 335 yJ0_coder_7d493 cJ0_coder_7d493 1 (some .byte) 0 := ⟨wmi 428 (by decide +kernel) (by decide +kernel), kx_J0_coder_7d493, kc_J0_coder_7d493, by decide, by decide, by decide +kernel⟩
theorem kw_RJ0_492 : CW RJ0 492 yJ0_isLatin1_aae02 cJ0_isLatin1_aae02 1 (some .boolean) 0 := ⟨wmi 438 (by decide +kernel) (by decide +kernel), kx_J0_isLatin1_aae02, kc_J0_isLatin1_aae02, by decide, by decide, by decide +kernel⟩
theorem kw_RJ0_495 : CW RJ0 495 yJ1_charAt_3b067 cJ1_charAt_3b067 2 (some .char) 2 := ⟨wmi 442 (by decide +kernel) (by decide +kernel), kx_J1_charAt_3b067, kc_J1_charAt_3b067, by decide, by decide, by decide +kernel⟩
theorem kw_RJ1_9 : CW RJ1 9 yJ0_checkIndex_df160 cJ0_checkIndex_df160 2 none 2 := ⟨wmi 445 (by decide +kernel) (by decide +kernel), kx_J0_checkIndex_df160, kc_J0_checkIndex_df160, by decide, by decide, by decide +kernel⟩
theorem kw_RJ0_1059 : CW RJ0 1059 yJ3_checkIndex_8e157 cJ3_checkIndex_8e157 3 (some .int) 3 := ⟨wmi 450 (by decide +kernel) (by decide +kernel), kx_J3_checkIndex_8e157, kc_J3_checkIndex_8e157, by decide, by decide, by decide +kernel⟩
theorem kg_RJ0_38 : Cond.fieldLink RJ0 38 "java/lang/String" "COMPACT_STRINGS" "Z" ∈ wAll := wmi 432 (by decide +kernel) (by decide +kernel)
theorem kg_RJ0_1053 : Cond.fieldLink RJ0 1053 "jdk/internal/util/Preconditions" "SIOOBE_FORMATTER" "Ljava/util/function/BiFunction;" ∈ wAll := wmi 448 (by decide +kernel) (by decide +kernel)
theorem kg_RJ0_9 : Cond.fieldLink RJ0 9 "java/lang/String" "value" "[B" ∈ wAll := wmi 1039 (by decide +kernel) (by decide +kernel)
theorem kg_RJ0_15 : Cond.fieldLink RJ0 15 "java/lang/String" "coder" "B" ∈ wAll := wmi 1040 (by decide +kernel) (by decide +kernel)
