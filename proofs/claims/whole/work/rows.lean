section
-- ===== PART A: goes FIRST, ahead of the names: the tables' words, and 'selects' of the private methods out of them =====
/-- a private method of a class that the tables say can be made, by its rows of tables_1 -/
def lw_okq (q : MethodName × Nat) : Prop := (q.1.cls ≠ "java/lang/invoke/MethodHandle" ∧ q.1.cls ≠ "java/lang/invoke/VarHandle") ∧ Cond.instantiable q.1.cls q.2 ∈ tables_1 ∧ Cond.privateMethod q.1 ∈ tables_1 ∧ Cond.instanceMethod q.1 ∈ tables_1
theorem lw_p0 : lw_okq (⟨"PaperRows", "refused", "(I)I"⟩, 13) := ⟨⟨by decide +kernel, by decide +kernel⟩, List.mem_of_getElem? (i := 17) (by decide +kernel), List.mem_of_getElem? (i := 161) (by decide +kernel), List.mem_of_getElem? (i := 162) (by decide +kernel)⟩
theorem lw_p1 : lw_okq (⟨"PaperRows", "canBeReferredTo", "(I)Z"⟩, 13) := ⟨⟨by decide +kernel, by decide +kernel⟩, List.mem_of_getElem? (i := 17) (by decide +kernel), List.mem_of_getElem? (i := 165) (by decide +kernel), List.mem_of_getElem? (i := 166) (by decide +kernel)⟩
theorem lw_p2 : lw_okq (⟨"PaperRows", "tell", "(LPaperRows$Row;)V"⟩, 13) := ⟨⟨by decide +kernel, by decide +kernel⟩, List.mem_of_getElem? (i := 17) (by decide +kernel), List.mem_of_getElem? (i := 225) (by decide +kernel), List.mem_of_getElem? (i := 226) (by decide +kernel)⟩
theorem lw_p3 : lw_okq (⟨"PaperRows", "answered", "(I)I"⟩, 13) := ⟨⟨by decide +kernel, by decide +kernel⟩, List.mem_of_getElem? (i := 17) (by decide +kernel), List.mem_of_getElem? (i := 240) (by decide +kernel), List.mem_of_getElem? (i := 241) (by decide +kernel)⟩
theorem lw_p4 : lw_okq (⟨"PaperRows$Tape", "addByte", "(I)V"⟩, 2) := ⟨⟨by decide +kernel, by decide +kernel⟩, List.mem_of_getElem? (i := 54) (by decide +kernel), List.mem_of_getElem? (i := 287) (by decide +kernel), List.mem_of_getElem? (i := 288) (by decide +kernel)⟩
theorem lw_p5 : lw_okq (⟨"PaperRows$Parser", "advance", "()V"⟩, 4) := ⟨⟨by decide +kernel, by decide +kernel⟩, List.mem_of_getElem? (i := 311) (by decide +kernel), List.mem_of_getElem? (i := 334) (by decide +kernel), List.mem_of_getElem? (i := 335) (by decide +kernel)⟩
theorem lw_p6 : lw_okq (⟨"PaperRows$Parser", "readPart", "(I)Z"⟩, 4) := ⟨⟨by decide +kernel, by decide +kernel⟩, List.mem_of_getElem? (i := 311) (by decide +kernel), List.mem_of_getElem? (i := 348) (by decide +kernel), List.mem_of_getElem? (i := 349) (by decide +kernel)⟩
theorem lw_p7 : lw_okq (⟨"PaperRows$Parser", "tableHere", "()I"⟩, 4) := ⟨⟨by decide +kernel, by decide +kernel⟩, List.mem_of_getElem? (i := 311) (by decide +kernel), List.mem_of_getElem? (i := 352) (by decide +kernel), List.mem_of_getElem? (i := 353) (by decide +kernel)⟩
theorem lw_p8 : lw_okq (⟨"PaperRows$Parser", "isSign", "(C)Z"⟩, 4) := ⟨⟨by decide +kernel, by decide +kernel⟩, List.mem_of_getElem? (i := 311) (by decide +kernel), List.mem_of_getElem? (i := 368) (by decide +kernel), List.mem_of_getElem? (i := 369) (by decide +kernel)⟩
theorem lw_p9 : lw_okq (⟨"PaperRows$Parser", "readItems", "(II)Z"⟩, 4) := ⟨⟨by decide +kernel, by decide +kernel⟩, List.mem_of_getElem? (i := 311) (by decide +kernel), List.mem_of_getElem? (i := 372) (by decide +kernel), List.mem_of_getElem? (i := 373) (by decide +kernel)⟩
theorem lw_p10 : lw_okq (⟨"PaperRows$Parser", "readItem", "(II)Z"⟩, 4) := ⟨⟨by decide +kernel, by decide +kernel⟩, List.mem_of_getElem? (i := 311) (by decide +kernel), List.mem_of_getElem? (i := 376) (by decide +kernel), List.mem_of_getElem? (i := 377) (by decide +kernel)⟩
theorem lw_p11 : lw_okq (⟨"PaperRows$Parser", "isWord", "(Ljava/lang/String;)Z"⟩, 4) := ⟨⟨by decide +kernel, by decide +kernel⟩, List.mem_of_getElem? (i := 311) (by decide +kernel), List.mem_of_getElem? (i := 381) (by decide +kernel), List.mem_of_getElem? (i := 382) (by decide +kernel)⟩
theorem lw_p12 : lw_okq (⟨"PaperRows$Parser", "referenceHere", "()I"⟩, 4) := ⟨⟨by decide +kernel, by decide +kernel⟩, List.mem_of_getElem? (i := 311) (by decide +kernel), List.mem_of_getElem? (i := 439) (by decide +kernel), List.mem_of_getElem? (i := 440) (by decide +kernel)⟩
theorem lw_p13 : lw_okq (⟨"PaperRows$Parser", "isAtEnd", "()Z"⟩, 4) := ⟨⟨by decide +kernel, by decide +kernel⟩, List.mem_of_getElem? (i := 311) (by decide +kernel), List.mem_of_getElem? (i := 443) (by decide +kernel), List.mem_of_getElem? (i := 444) (by decide +kernel)⟩
theorem lw_p14 : lw_okq (⟨"PaperRows$Paper", "addPart", "(LPaperRows$Shape;LPaperRows$Rows;ILPaperRows$Row;I)V"⟩, 3) := ⟨⟨by decide +kernel, by decide +kernel⟩, List.mem_of_getElem? (i := 98) (by decide +kernel), List.mem_of_getElem? (i := 471) (by decide +kernel), List.mem_of_getElem? (i := 472) (by decide +kernel)⟩
theorem lw_p15 : lw_okq (⟨"PaperRows$Paper", "isFull", "()Z"⟩, 3) := ⟨⟨by decide +kernel, by decide +kernel⟩, List.mem_of_getElem? (i := 98) (by decide +kernel), List.mem_of_getElem? (i := 475) (by decide +kernel), List.mem_of_getElem? (i := 476) (by decide +kernel)⟩
def lw_privs_1 : List (MethodName × Nat) := [(⟨"PaperRows", "refused", "(I)I"⟩, 13), (⟨"PaperRows", "canBeReferredTo", "(I)Z"⟩, 13), (⟨"PaperRows", "tell", "(LPaperRows$Row;)V"⟩, 13), (⟨"PaperRows", "answered", "(I)I"⟩, 13), (⟨"PaperRows$Tape", "addByte", "(I)V"⟩, 2), (⟨"PaperRows$Parser", "advance", "()V"⟩, 4), (⟨"PaperRows$Parser", "readPart", "(I)Z"⟩, 4), (⟨"PaperRows$Parser", "tableHere", "()I"⟩, 4), (⟨"PaperRows$Parser", "isSign", "(C)Z"⟩, 4), (⟨"PaperRows$Parser", "readItems", "(II)Z"⟩, 4), (⟨"PaperRows$Parser", "readItem", "(II)Z"⟩, 4), (⟨"PaperRows$Parser", "isWord", "(Ljava/lang/String;)Z"⟩, 4), (⟨"PaperRows$Parser", "referenceHere", "()I"⟩, 4), (⟨"PaperRows$Parser", "isAtEnd", "()Z"⟩, 4), (⟨"PaperRows$Paper", "addPart", "(LPaperRows$Shape;LPaperRows$Rows;ILPaperRows$Row;I)V"⟩, 3), (⟨"PaperRows$Paper", "isFull", "()Z"⟩, 3)]
theorem lw_r1 : ∀ q ∈ lw_privs_1, lw_okq q := List.forall_mem_cons.mpr ⟨lw_p0, List.forall_mem_cons.mpr ⟨lw_p1, List.forall_mem_cons.mpr ⟨lw_p2, List.forall_mem_cons.mpr ⟨lw_p3, List.forall_mem_cons.mpr ⟨lw_p4, List.forall_mem_cons.mpr ⟨lw_p5, List.forall_mem_cons.mpr ⟨lw_p6, List.forall_mem_cons.mpr ⟨lw_p7, List.forall_mem_cons.mpr ⟨lw_p8, List.forall_mem_cons.mpr ⟨lw_p9, List.forall_mem_cons.mpr ⟨lw_p10, List.forall_mem_cons.mpr ⟨lw_p11, List.forall_mem_cons.mpr ⟨lw_p12, List.forall_mem_cons.mpr ⟨lw_p13, List.forall_mem_cons.mpr ⟨lw_p14, List.forall_mem_cons.mpr ⟨lw_p15, fun _ h => absurd h List.not_mem_nil⟩⟩⟩⟩⟩⟩⟩⟩⟩⟩⟩⟩⟩⟩⟩⟩
theorem lw_p16 : lw_okq (⟨"PaperRows$Paper", "add", "(I)V"⟩, 3) := ⟨⟨by decide +kernel, by decide +kernel⟩, List.mem_of_getElem? (i := 98) (by decide +kernel), List.mem_of_getElem? (i := 479) (by decide +kernel), List.mem_of_getElem? (i := 480) (by decide +kernel)⟩
theorem lw_p17 : lw_okq (⟨"PaperRows$Shape", "isItem", "(I)Z"⟩, 7) := ⟨⟨by decide +kernel, by decide +kernel⟩, List.mem_of_getElem? (i := 70) (by decide +kernel), List.mem_of_getElem? (i := 491) (by decide +kernel), List.mem_of_getElem? (i := 492) (by decide +kernel)⟩
theorem lw_p18 : lw_okq (⟨"PaperRows$Paper", "addUp", "(LPaperRows$Shape;LPaperRows$Rows;ILPaperRows$Row;I)V"⟩, 3) := ⟨⟨by decide +kernel, by decide +kernel⟩, List.mem_of_getElem? (i := 98) (by decide +kernel), List.mem_of_getElem? (i := 499) (by decide +kernel), List.mem_of_getElem? (i := 500) (by decide +kernel)⟩
theorem lw_p19 : lw_okq (⟨"PaperRows$Paper", "addDown", "(LPaperRows$Shape;LPaperRows$Rows;ILPaperRows$Row;I)V"⟩, 3) := ⟨⟨by decide +kernel, by decide +kernel⟩, List.mem_of_getElem? (i := 98) (by decide +kernel), List.mem_of_getElem? (i := 515) (by decide +kernel), List.mem_of_getElem? (i := 516) (by decide +kernel)⟩
theorem lw_p20 : lw_okq (⟨"PaperRows", "readerAt", "(I)LPaperRows$Reader;"⟩, 13) := ⟨⟨by decide +kernel, by decide +kernel⟩, List.mem_of_getElem? (i := 17) (by decide +kernel), List.mem_of_getElem? (i := 579) (by decide +kernel), List.mem_of_getElem? (i := 580) (by decide +kernel)⟩
theorem lw_p21 : lw_okq (⟨"PaperRows", "isOtherwiseThen", "(I)Z"⟩, 13) := ⟨⟨by decide +kernel, by decide +kernel⟩, List.mem_of_getElem? (i := 17) (by decide +kernel), List.mem_of_getElem? (i := 631) (by decide +kernel), List.mem_of_getElem? (i := 632) (by decide +kernel)⟩
theorem lw_p22 : lw_okq (⟨"PaperRowsModel", "told", "(I)I"⟩, 55) := ⟨⟨by decide +kernel, by decide +kernel⟩, List.mem_of_getElem? (i := 648) (by decide +kernel), List.mem_of_getElem? (i := 834) (by decide +kernel), List.mem_of_getElem? (i := 835) (by decide +kernel)⟩
theorem lw_p23 : lw_okq (⟨"PaperRowsModel", "isRow", "(I)Z"⟩, 55) := ⟨⟨by decide +kernel, by decide +kernel⟩, List.mem_of_getElem? (i := 648) (by decide +kernel), List.mem_of_getElem? (i := 838) (by decide +kernel), List.mem_of_getElem? (i := 839) (by decide +kernel)⟩
theorem lw_p24 : lw_okq (⟨"PaperRowsModel", "tell", "(IIIIII)V"⟩, 55) := ⟨⟨by decide +kernel, by decide +kernel⟩, List.mem_of_getElem? (i := 648) (by decide +kernel), List.mem_of_getElem? (i := 842) (by decide +kernel), List.mem_of_getElem? (i := 843) (by decide +kernel)⟩
theorem lw_p25 : lw_okq (⟨"PaperRowsModel", "goOne", "(I)V"⟩, 55) := ⟨⟨by decide +kernel, by decide +kernel⟩, List.mem_of_getElem? (i := 648) (by decide +kernel), List.mem_of_getElem? (i := 846) (by decide +kernel), List.mem_of_getElem? (i := 847) (by decide +kernel)⟩
theorem lw_p26 : lw_okq (⟨"PaperRowsModel", "four", "(I)V"⟩, 55) := ⟨⟨by decide +kernel, by decide +kernel⟩, List.mem_of_getElem? (i := 648) (by decide +kernel), List.mem_of_getElem? (i := 870) (by decide +kernel), List.mem_of_getElem? (i := 871) (by decide +kernel)⟩
theorem lw_p27 : lw_okq (⟨"PaperRowsModel", "next", "()V"⟩, 55) := ⟨⟨by decide +kernel, by decide +kernel⟩, List.mem_of_getElem? (i := 648) (by decide +kernel), List.mem_of_getElem? (i := 882) (by decide +kernel), List.mem_of_getElem? (i := 883) (by decide +kernel)⟩
theorem lw_p28 : lw_okq (⟨"PaperRowsModel", "readPart", "()Z"⟩, 55) := ⟨⟨by decide +kernel, by decide +kernel⟩, List.mem_of_getElem? (i := 648) (by decide +kernel), List.mem_of_getElem? (i := 897) (by decide +kernel), List.mem_of_getElem? (i := 898) (by decide +kernel)⟩
theorem lw_p29 : lw_okq (⟨"PaperRowsModel", "must", "(Z)V"⟩, 55) := ⟨⟨by decide +kernel, by decide +kernel⟩, List.mem_of_getElem? (i := 648) (by decide +kernel), List.mem_of_getElem? (i := 902) (by decide +kernel), List.mem_of_getElem? (i := 903) (by decide +kernel)⟩
theorem lw_p30 : lw_okq (⟨"PaperRowsModel", "isSign", "(I)Z"⟩, 55) := ⟨⟨by decide +kernel, by decide +kernel⟩, List.mem_of_getElem? (i := 648) (by decide +kernel), List.mem_of_getElem? (i := 906) (by decide +kernel), List.mem_of_getElem? (i := 907) (by decide +kernel)⟩
theorem lw_p31 : lw_okq (⟨"PaperRowsModel", "readItem", "()Z"⟩, 55) := ⟨⟨by decide +kernel, by decide +kernel⟩, List.mem_of_getElem? (i := 648) (by decide +kernel), List.mem_of_getElem? (i := 910) (by decide +kernel), List.mem_of_getElem? (i := 911) (by decide +kernel)⟩
def lw_privs_2 : List (MethodName × Nat) := [(⟨"PaperRows$Paper", "add", "(I)V"⟩, 3), (⟨"PaperRows$Shape", "isItem", "(I)Z"⟩, 7), (⟨"PaperRows$Paper", "addUp", "(LPaperRows$Shape;LPaperRows$Rows;ILPaperRows$Row;I)V"⟩, 3), (⟨"PaperRows$Paper", "addDown", "(LPaperRows$Shape;LPaperRows$Rows;ILPaperRows$Row;I)V"⟩, 3), (⟨"PaperRows", "readerAt", "(I)LPaperRows$Reader;"⟩, 13), (⟨"PaperRows", "isOtherwiseThen", "(I)Z"⟩, 13), (⟨"PaperRowsModel", "told", "(I)I"⟩, 55), (⟨"PaperRowsModel", "isRow", "(I)Z"⟩, 55), (⟨"PaperRowsModel", "tell", "(IIIIII)V"⟩, 55), (⟨"PaperRowsModel", "goOne", "(I)V"⟩, 55), (⟨"PaperRowsModel", "four", "(I)V"⟩, 55), (⟨"PaperRowsModel", "next", "()V"⟩, 55), (⟨"PaperRowsModel", "readPart", "()Z"⟩, 55), (⟨"PaperRowsModel", "must", "(Z)V"⟩, 55), (⟨"PaperRowsModel", "isSign", "(I)Z"⟩, 55), (⟨"PaperRowsModel", "readItem", "()Z"⟩, 55)]
theorem lw_r2 : ∀ q ∈ lw_privs_2, lw_okq q := List.forall_mem_cons.mpr ⟨lw_p16, List.forall_mem_cons.mpr ⟨lw_p17, List.forall_mem_cons.mpr ⟨lw_p18, List.forall_mem_cons.mpr ⟨lw_p19, List.forall_mem_cons.mpr ⟨lw_p20, List.forall_mem_cons.mpr ⟨lw_p21, List.forall_mem_cons.mpr ⟨lw_p22, List.forall_mem_cons.mpr ⟨lw_p23, List.forall_mem_cons.mpr ⟨lw_p24, List.forall_mem_cons.mpr ⟨lw_p25, List.forall_mem_cons.mpr ⟨lw_p26, List.forall_mem_cons.mpr ⟨lw_p27, List.forall_mem_cons.mpr ⟨lw_p28, List.forall_mem_cons.mpr ⟨lw_p29, List.forall_mem_cons.mpr ⟨lw_p30, List.forall_mem_cons.mpr ⟨lw_p31, fun _ h => absurd h List.not_mem_nil⟩⟩⟩⟩⟩⟩⟩⟩⟩⟩⟩⟩⟩⟩⟩⟩
theorem lw_p32 : lw_okq (⟨"PaperRowsModel", "isWord", "(IIII)Z"⟩, 55) := ⟨⟨by decide +kernel, by decide +kernel⟩, List.mem_of_getElem? (i := 648) (by decide +kernel), List.mem_of_getElem? (i := 914) (by decide +kernel), List.mem_of_getElem? (i := 915) (by decide +kernel)⟩
theorem lw_p33 : lw_okq (⟨"PaperRowsModel", "make", "(I)V"⟩, 55) := ⟨⟨by decide +kernel, by decide +kernel⟩, List.mem_of_getElem? (i := 648) (by decide +kernel), List.mem_of_getElem? (i := 926) (by decide +kernel), List.mem_of_getElem? (i := 927) (by decide +kernel)⟩
theorem lw_p34 : lw_okq (⟨"PaperRowsModel", "begin", "(II)V"⟩, 55) := ⟨⟨by decide +kernel, by decide +kernel⟩, List.mem_of_getElem? (i := 648) (by decide +kernel), List.mem_of_getElem? (i := 930) (by decide +kernel), List.mem_of_getElem? (i := 931) (by decide +kernel)⟩
theorem lw_p35 : lw_okq (⟨"PaperRowsModel", "write", "(II)V"⟩, 55) := ⟨⟨by decide +kernel, by decide +kernel⟩, List.mem_of_getElem? (i := 648) (by decide +kernel), List.mem_of_getElem? (i := 934) (by decide +kernel), List.mem_of_getElem? (i := 935) (by decide +kernel)⟩
theorem lw_p36 : lw_okq (⟨"PaperRowsModel", "nextRow", "(III)I"⟩, 55) := ⟨⟨by decide +kernel, by decide +kernel⟩, List.mem_of_getElem? (i := 648) (by decide +kernel), List.mem_of_getElem? (i := 938) (by decide +kernel), List.mem_of_getElem? (i := 939) (by decide +kernel)⟩
theorem lw_p37 : lw_okq (⟨"PaperRowsModel", "goTo", "(I)V"⟩, 55) := ⟨⟨by decide +kernel, by decide +kernel⟩, List.mem_of_getElem? (i := 648) (by decide +kernel), List.mem_of_getElem? (i := 956) (by decide +kernel), List.mem_of_getElem? (i := 957) (by decide +kernel)⟩
theorem lw_p38 : lw_okq (⟨"PaperRowsModel", "isHeld", "(I)Z"⟩, 55) := ⟨⟨by decide +kernel, by decide +kernel⟩, List.mem_of_getElem? (i := 648) (by decide +kernel), List.mem_of_getElem? (i := 968) (by decide +kernel), List.mem_of_getElem? (i := 969) (by decide +kernel)⟩
theorem lw_p39 : lw_okq (⟨"PaperRowsModel", "isReader", "(I)Z"⟩, 55) := ⟨⟨by decide +kernel, by decide +kernel⟩, List.mem_of_getElem? (i := 648) (by decide +kernel), List.mem_of_getElem? (i := 976) (by decide +kernel), List.mem_of_getElem? (i := 977) (by decide +kernel)⟩
def lw_privs_3 : List (MethodName × Nat) := [(⟨"PaperRowsModel", "isWord", "(IIII)Z"⟩, 55), (⟨"PaperRowsModel", "make", "(I)V"⟩, 55), (⟨"PaperRowsModel", "begin", "(II)V"⟩, 55), (⟨"PaperRowsModel", "write", "(II)V"⟩, 55), (⟨"PaperRowsModel", "nextRow", "(III)I"⟩, 55), (⟨"PaperRowsModel", "goTo", "(I)V"⟩, 55), (⟨"PaperRowsModel", "isHeld", "(I)Z"⟩, 55), (⟨"PaperRowsModel", "isReader", "(I)Z"⟩, 55)]
theorem lw_r3 : ∀ q ∈ lw_privs_3, lw_okq q := List.forall_mem_cons.mpr ⟨lw_p32, List.forall_mem_cons.mpr ⟨lw_p33, List.forall_mem_cons.mpr ⟨lw_p34, List.forall_mem_cons.mpr ⟨lw_p35, List.forall_mem_cons.mpr ⟨lw_p36, List.forall_mem_cons.mpr ⟨lw_p37, List.forall_mem_cons.mpr ⟨lw_p38, List.forall_mem_cons.mpr ⟨lw_p39, fun _ h => absurd h List.not_mem_nil⟩⟩⟩⟩⟩⟩⟩⟩
def lw_privs : List (MethodName × Nat) := lw_privs_1 ++ (lw_privs_2 ++ (lw_privs_3))
def lw_tbl : List Cond := k2_sels lw_privs ++ tables_1
theorem lw_privs_ok : ∀ q ∈ lw_privs, lw_okq q := by
  show ∀ q ∈ lw_privs_1 ++ (lw_privs_2 ++ (lw_privs_3)), lw_okq q
  exact List.forall_mem_append.mpr ⟨lw_r1, List.forall_mem_append.mpr ⟨lw_r2, lw_r3⟩⟩
end
section
/-! ===== BEGIN printed: names, fields, word lists, decode rows ===== -/
def RX0 : String := "PaperRows$History"
def TX0 : u_T := fun k => match k with
  | 0 => ("PaperRows$History", "told", "[LPaperRows$Row;", true)
  | _ => ("PaperRows$History", "length", "I", false)
def tyX0 : Nat → FieldType := fun k => match k with
  | 0 => .array (.object "PaperRows$Row")
  | _ => .int
theorem nmX0 : ∀ a, a < 2 → ∀ b, b < 2 → a ≠ b → (TX0 a).2.1 ≠ (TX0 b).2.1 := by decide +kernel
theorem tyX0_ok : ∀ k, k < 2 → parseFieldDescriptor (TX0 k).2.2.1 = some (tyX0 k) := by decide +kernel
abbrev cX0_init : ByteArray := prog_2_method_1_code
def yX0_init : MethodName := ⟨RX0, "<init>", "()V"⟩
abbrev cX0_length : ByteArray := prog_2_method_2_code
def yX0_length : MethodName := ⟨RX0, "length", "()I"⟩
abbrev cX0_isFull : ByteArray := prog_2_method_3_code
def yX0_isFull : MethodName := ⟨RX0, "isFull", "()Z"⟩
abbrev cX0_add : ByteArray := prog_2_method_4_code
def yX0_add : MethodName := ⟨RX0, "add", "(LPaperRows$Row;)V"⟩
abbrev cX0_replay : ByteArray := prog_2_method_5_code
def yX0_replay : MethodName := ⟨RX0, "replay", "(ILPaperRows$Rows;)V"⟩
def RX1 : String := "PaperRows$Paper"
def TX1 : u_T := fun k => match k with
  | 0 => ("PaperRows$Paper", "marks", "[I", true)
  | 1 => ("PaperRows$Paper", "length", "I", false)
  | _ => ("PaperRows$Paper", "begun", "J", false)
def tyX1 : Nat → FieldType := fun k => match k with
  | 0 => .array .int
  | 1 => .int
  | _ => .long
theorem nmX1 : ∀ a, a < 3 → ∀ b, b < 3 → a ≠ b → (TX1 a).2.1 ≠ (TX1 b).2.1 := by decide +kernel
theorem tyX1_ok : ∀ k, k < 3 → parseFieldDescriptor (TX1 k).2.2.1 = some (tyX1 k) := by decide +kernel
abbrev cX1_init : ByteArray := prog_3_method_1_code
def yX1_init : MethodName := ⟨RX1, "<init>", "()V"⟩
abbrev cX1_length : ByteArray := prog_3_method_2_code
def yX1_length : MethodName := ⟨RX1, "length", "()I"⟩
abbrev cX1_at : ByteArray := prog_3_method_3_code
def yX1_at : MethodName := ⟨RX1, "at", "(I)I"⟩
abbrev cX1_isValueAt : ByteArray := prog_3_method_4_code
def yX1_isValueAt : MethodName := ⟨RX1, "isValueAt", "(I)Z"⟩
abbrev cX1_put : ByteArray := prog_3_method_5_code
def yX1_put : MethodName := ⟨RX1, "put", "(II)V"⟩
abbrev cX1_hasMarksOf : ByteArray := prog_3_method_6_code
def yX1_hasMarksOf : MethodName := ⟨RX1, "hasMarksOf", "(LPaperRows$Paper;)Z"⟩
abbrev cX1_takeFrom : ByteArray := prog_3_method_7_code
def yX1_takeFrom : MethodName := ⟨RX1, "takeFrom", "(LPaperRows$Paper;)V"⟩
abbrev cX1_rowAround : ByteArray := prog_3_method_8_code
def yX1_rowAround : MethodName := ⟨RX1, "rowAround", "(I)I"⟩
abbrev cX1_gather : ByteArray := prog_3_method_9_code
def yX1_gather : MethodName := ⟨RX1, "gather", "(LPaperRows$Shape;LPaperRows$Rows;I)V"⟩
abbrev cX1_addPart : ByteArray := prog_3_method_10_code
def yX1_addPart : MethodName := ⟨RX1, "addPart", "(LPaperRows$Shape;LPaperRows$Rows;ILPaperRows$Row;I)V"⟩
abbrev cX1_addUp : ByteArray := prog_3_method_11_code
def yX1_addUp : MethodName := ⟨RX1, "addUp", "(LPaperRows$Shape;LPaperRows$Rows;ILPaperRows$Row;I)V"⟩
abbrev cX1_addDown : ByteArray := prog_3_method_12_code
def yX1_addDown : MethodName := ⟨RX1, "addDown", "(LPaperRows$Shape;LPaperRows$Rows;ILPaperRows$Row;I)V"⟩
abbrev cX1_isFull : ByteArray := prog_3_method_13_code
def yX1_isFull : MethodName := ⟨RX1, "isFull", "()Z"⟩
abbrev cX1_add : ByteArray := prog_3_method_14_code
def yX1_add : MethodName := ⟨RX1, "add", "(I)V"⟩
def RX2 : String := "PaperRows$Parser"
def TX2 : u_T := fun k => match k with
  | 0 => ("PaperRows$Parser", "tape", "LPaperRows$Tape;", true)
  | 1 => ("PaperRows$Parser", "shape", "LPaperRows$Shape;", true)
  | 2 => ("PaperRows$Parser", "start", "I", false)
  | _ => ("PaperRows$Parser", "past", "I", false)
def tyX2 : Nat → FieldType := fun k => match k with
  | 0 => .object "PaperRows$Tape"
  | 1 => .object "PaperRows$Shape"
  | 2 => .int
  | _ => .int
theorem nmX2 : ∀ a, a < 4 → ∀ b, b < 4 → a ≠ b → (TX2 a).2.1 ≠ (TX2 b).2.1 := by decide +kernel
theorem tyX2_ok : ∀ k, k < 4 → parseFieldDescriptor (TX2 k).2.2.1 = some (tyX2 k) := by decide +kernel
abbrev cX2_init : ByteArray := prog_4_method_1_code
def yX2_init : MethodName := ⟨RX2, "<init>", "(LPaperRows$Tape;LPaperRows$Shape;)V"⟩
abbrev cX2_place : ByteArray := prog_4_method_2_code
def yX2_place : MethodName := ⟨RX2, "place", "()I"⟩
abbrev cX2_readText : ByteArray := prog_4_method_3_code
def yX2_readText : MethodName := ⟨RX2, "readText", "()Z"⟩
abbrev cX2_readPart : ByteArray := prog_4_method_4_code
def yX2_readPart : MethodName := ⟨RX2, "readPart", "(I)Z"⟩
abbrev cX2_readItems : ByteArray := prog_4_method_5_code
def yX2_readItems : MethodName := ⟨RX2, "readItems", "(II)Z"⟩
abbrev cX2_readItem : ByteArray := prog_4_method_6_code
def yX2_readItem : MethodName := ⟨RX2, "readItem", "(II)Z"⟩
abbrev cX2_advance : ByteArray := prog_4_method_7_code
def yX2_advance : MethodName := ⟨RX2, "advance", "()V"⟩
abbrev cX2_isAtEnd : ByteArray := prog_4_method_8_code
def yX2_isAtEnd : MethodName := ⟨RX2, "isAtEnd", "()Z"⟩
abbrev cX2_isLetter : ByteArray := prog_4_method_9_code
def yX2_isLetter : MethodName := ⟨RX2, "isLetter", "(I)Z"⟩
abbrev cX2_isDigit : ByteArray := prog_4_method_10_code
def yX2_isDigit : MethodName := ⟨RX2, "isDigit", "(I)Z"⟩
abbrev cX2_isSign : ByteArray := prog_4_method_11_code
def yX2_isSign : MethodName := ⟨RX2, "isSign", "(C)Z"⟩
abbrev cX2_isWord : ByteArray := prog_4_method_12_code
def yX2_isWord : MethodName := ⟨RX2, "isWord", "(Ljava/lang/String;)Z"⟩
abbrev cX2_tableHere : ByteArray := prog_4_method_13_code
def yX2_tableHere : MethodName := ⟨RX2, "tableHere", "()I"⟩
abbrev cX2_referenceHere : ByteArray := prog_4_method_14_code
def yX2_referenceHere : MethodName := ⟨RX2, "referenceHere", "()I"⟩
def RX3 : String := "PaperRows$Reader"
def TX3 : u_T := fun k => match k with
  | 0 => ("PaperRows$Reader", "row", "I", true)
  | _ => ("PaperRows$Reader", "held", "LPaperRows$Paper;", true)
def tyX3 : Nat → FieldType := fun k => match k with
  | 0 => .int
  | _ => .object "PaperRows$Paper"
theorem nmX3 : ∀ a, a < 2 → ∀ b, b < 2 → a ≠ b → (TX3 a).2.1 ≠ (TX3 b).2.1 := by decide +kernel
theorem tyX3_ok : ∀ k, k < 2 → parseFieldDescriptor (TX3 k).2.2.1 = some (tyX3 k) := by decide +kernel
abbrev cX3_init : ByteArray := prog_5_method_1_code
def yX3_init : MethodName := ⟨RX3, "<init>", "(I)V"⟩
def RX4 : String := "PaperRows$Row"
def TX4 : u_T := fun k => match k with
  | 0 => ("PaperRows$Row", "number", "I", true)
  | 1 => ("PaperRows$Row", "table", "I", true)
  | 2 => ("PaperRows$Row", "value", "I", true)
  | 3 => ("PaperRows$Row", "reference0", "I", true)
  | 4 => ("PaperRows$Row", "reference1", "I", true)
  | _ => ("PaperRows$Row", "there", "Z", true)
def tyX4 : Nat → FieldType := fun k => match k with
  | 0 => .int
  | 1 => .int
  | 2 => .int
  | 3 => .int
  | 4 => .int
  | _ => .boolean
theorem nmX4 : ∀ a, a < 6 → ∀ b, b < 6 → a ≠ b → (TX4 a).2.1 ≠ (TX4 b).2.1 := by decide +kernel
theorem tyX4_ok : ∀ k, k < 6 → parseFieldDescriptor (TX4 k).2.2.1 = some (tyX4 k) := by decide +kernel
abbrev cX4_init : ByteArray := prog_6_method_1_code
def yX4_init : MethodName := ⟨RX4, "<init>", "(IIIIIZ)V"⟩
abbrev cX4_withValue : ByteArray := prog_6_method_2_code
def yX4_withValue : MethodName := ⟨RX4, "withValue", "(I)LPaperRows$Row;"⟩
abbrev cX4_withReference : ByteArray := prog_6_method_3_code
def yX4_withReference : MethodName := ⟨RX4, "withReference", "(II)LPaperRows$Row;"⟩
abbrev cX4_gone : ByteArray := prog_6_method_4_code
def yX4_gone : MethodName := ⟨RX4, "gone", "()LPaperRows$Row;"⟩
abbrev cX4_referenceBy : ByteArray := prog_6_method_5_code
def yX4_referenceBy : MethodName := ⟨RX4, "referenceBy", "(I)I"⟩
def RX5 : String := "PaperRows$Rows"
def TX5 : u_T := fun k => match k with
  | 0 => ("PaperRows$Rows", "all", "[LPaperRows$Row;", true)
  | _ => ("PaperRows$Rows", "known", "I", false)
def tyX5 : Nat → FieldType := fun k => match k with
  | 0 => .array (.object "PaperRows$Row")
  | _ => .int
theorem nmX5 : ∀ a, a < 2 → ∀ b, b < 2 → a ≠ b → (TX5 a).2.1 ≠ (TX5 b).2.1 := by decide +kernel
theorem tyX5_ok : ∀ k, k < 2 → parseFieldDescriptor (TX5 k).2.2.1 = some (tyX5 k) := by decide +kernel
abbrev cX5_init : ByteArray := prog_7_method_1_code
def yX5_init : MethodName := ⟨RX5, "<init>", "()V"⟩
abbrev cX5_known : ByteArray := prog_7_method_2_code
def yX5_known : MethodName := ⟨RX5, "known", "()I"⟩
abbrev cX5_isFull : ByteArray := prog_7_method_3_code
def yX5_isFull : MethodName := ⟨RX5, "isFull", "()Z"⟩
abbrev cX5_at : ByteArray := prog_7_method_4_code
def yX5_at : MethodName := ⟨RX5, "at", "(I)LPaperRows$Row;"⟩
abbrev cX5_standing : ByteArray := prog_7_method_5_code
def yX5_standing : MethodName := ⟨RX5, "standing", "(I)LPaperRows$Row;"⟩
abbrev cX5_standingOnes : ByteArray := prog_7_method_6_code
def yX5_standingOnes : MethodName := ⟨RX5, "standingOnes", "()I"⟩
abbrev cX5_put : ByteArray := prog_7_method_7_code
def yX5_put : MethodName := ⟨RX5, "put", "(LPaperRows$Row;)V"⟩
abbrev cX5_clear : ByteArray := prog_7_method_8_code
def yX5_clear : MethodName := ⟨RX5, "clear", "()V"⟩
abbrev cX5_takeFrom : ByteArray := prog_7_method_9_code
def yX5_takeFrom : MethodName := ⟨RX5, "takeFrom", "(LPaperRows$Rows;)V"⟩
def RX6 : String := "PaperRows$Shape"
def TX6 : u_T := fun k => match k with
  | 0 => ("PaperRows$Shape", "tables", "[I", true)
  | 1 => ("PaperRows$Shape", "owners", "[I", true)
  | 2 => ("PaperRows$Shape", "kinds", "[I", true)
  | 3 => ("PaperRows$Shape", "references", "[I", true)
  | 4 => ("PaperRows$Shape", "partsWithin", "[I", true)
  | 5 => ("PaperRows$Shape", "parts", "I", false)
  | _ => ("PaperRows$Shape", "items", "I", false)
def tyX6 : Nat → FieldType := fun k => match k with
  | 0 => .array .int
  | 1 => .array .int
  | 2 => .array .int
  | 3 => .array .int
  | 4 => .array .int
  | 5 => .int
  | _ => .int
theorem nmX6 : ∀ a, a < 7 → ∀ b, b < 7 → a ≠ b → (TX6 a).2.1 ≠ (TX6 b).2.1 := by decide +kernel
theorem tyX6_ok : ∀ k, k < 7 → parseFieldDescriptor (TX6 k).2.2.1 = some (tyX6 k) := by decide +kernel
abbrev cX6_init : ByteArray := prog_8_method_1_code
def yX6_init : MethodName := ⟨RX6, "<init>", "()V"⟩
abbrev cX6_parts : ByteArray := prog_8_method_2_code
def yX6_parts : MethodName := ⟨RX6, "parts", "()I"⟩
abbrev cX6_items : ByteArray := prog_8_method_3_code
def yX6_items : MethodName := ⟨RX6, "items", "()I"⟩
abbrev cX6_clear : ByteArray := prog_8_method_4_code
def yX6_clear : MethodName := ⟨RX6, "clear", "()V"⟩
abbrev cX6_hasRoomForPart : ByteArray := prog_8_method_5_code
def yX6_hasRoomForPart : MethodName := ⟨RX6, "hasRoomForPart", "()Z"⟩
abbrev cX6_addPart : ByteArray := prog_8_method_6_code
def yX6_addPart : MethodName := ⟨RX6, "addPart", "(I)V"⟩
abbrev cX6_addItem : ByteArray := prog_8_method_7_code
def yX6_addItem : MethodName := ⟨RX6, "addItem", "(IIII)V"⟩
abbrev cX6_tableOf : ByteArray := prog_8_method_8_code
def yX6_tableOf : MethodName := ⟨RX6, "tableOf", "(I)I"⟩
abbrev cX6_isItem : ByteArray := prog_8_method_9_code
def yX6_isItem : MethodName := ⟨RX6, "isItem", "(I)Z"⟩
abbrev cX6_ownerOf : ByteArray := prog_8_method_10_code
def yX6_ownerOf : MethodName := ⟨RX6, "ownerOf", "(I)I"⟩
abbrev cX6_kindOf : ByteArray := prog_8_method_11_code
def yX6_kindOf : MethodName := ⟨RX6, "kindOf", "(I)I"⟩
abbrev cX6_referenceOf : ByteArray := prog_8_method_12_code
def yX6_referenceOf : MethodName := ⟨RX6, "referenceOf", "(I)I"⟩
abbrev cX6_partWithin : ByteArray := prog_8_method_13_code
def yX6_partWithin : MethodName := ⟨RX6, "partWithin", "(I)I"⟩
def RX7 : String := "PaperRows$Tape"
def TX7 : u_T := fun k => match k with
  | 0 => ("PaperRows$Tape", "bytes", "[I", true)
  | _ => ("PaperRows$Tape", "length", "I", false)
def tyX7 : Nat → FieldType := fun k => match k with
  | 0 => .array .int
  | _ => .int
theorem nmX7 : ∀ a, a < 2 → ∀ b, b < 2 → a ≠ b → (TX7 a).2.1 ≠ (TX7 b).2.1 := by decide +kernel
theorem tyX7_ok : ∀ k, k < 2 → parseFieldDescriptor (TX7 k).2.2.1 = some (tyX7 k) := by decide +kernel
abbrev cX7_init : ByteArray := prog_9_method_1_code
def yX7_init : MethodName := ⟨RX7, "<init>", "()V"⟩
abbrev cX7_length : ByteArray := prog_9_method_2_code
def yX7_length : MethodName := ⟨RX7, "length", "()I"⟩
abbrev cX7_addNumber : ByteArray := prog_9_method_3_code
def yX7_addNumber : MethodName := ⟨RX7, "addNumber", "(I)V"⟩
abbrev cX7_addByte : ByteArray := prog_9_method_4_code
def yX7_addByte : MethodName := ⟨RX7, "addByte", "(I)V"⟩
abbrev cX7_cutTo : ByteArray := prog_9_method_5_code
def yX7_cutTo : MethodName := ⟨RX7, "cutTo", "(I)V"⟩
abbrev cX7_byteAt : ByteArray := prog_9_method_6_code
def yX7_byteAt : MethodName := ⟨RX7, "byteAt", "(I)I"⟩
def RX8 : String := "PaperRows"
def TX8 : u_T := fun k => match k with
  | 0 => ("PaperRows", "now", "LPaperRows$Rows;", true)
  | 1 => ("PaperRows", "history", "LPaperRows$History;", true)
  | 2 => ("PaperRows", "tape", "LPaperRows$Tape;", true)
  | 3 => ("PaperRows", "readers", "[LPaperRows$Reader;", true)
  | 4 => ("PaperRows", "shape", "LPaperRows$Shape;", false)
  | 5 => ("PaperRows", "readerCount", "I", false)
  | 6 => ("PaperRows", "sendings", "I", false)
  | 7 => ("PaperRows", "fault", "I", false)
  | 8 => ("PaperRows", "status", "I", false)
  | 9 => ("PaperRows", "spareShape", "LPaperRows$Shape;", false)
  | 10 => ("PaperRows", "then", "LPaperRows$Rows;", true)
  | 11 => ("PaperRows", "paper", "LPaperRows$Paper;", true)
  | _ => ("PaperRows", "otherPaper", "LPaperRows$Paper;", true)
def tyX8 : Nat → FieldType := fun k => match k with
  | 0 => .object "PaperRows$Rows"
  | 1 => .object "PaperRows$History"
  | 2 => .object "PaperRows$Tape"
  | 3 => .array (.object "PaperRows$Reader")
  | 4 => .object "PaperRows$Shape"
  | 5 => .int
  | 6 => .int
  | 7 => .int
  | 8 => .int
  | 9 => .object "PaperRows$Shape"
  | 10 => .object "PaperRows$Rows"
  | 11 => .object "PaperRows$Paper"
  | _ => .object "PaperRows$Paper"
theorem nmX8 : ∀ a, a < 13 → ∀ b, b < 13 → a ≠ b → (TX8 a).2.1 ≠ (TX8 b).2.1 := by decide +kernel
theorem tyX8_ok : ∀ k, k < 13 → parseFieldDescriptor (TX8 k).2.2.1 = some (tyX8 k) := by decide +kernel
abbrev cX8_init : ByteArray := prog_1_method_1_code
def yX8_init : MethodName := ⟨RX8, "<init>", "()V"⟩
abbrev cX8_row : ByteArray := prog_1_method_2_code
def yX8_row : MethodName := ⟨RX8, "row", "(IIII)I"⟩
abbrev cX8_value : ByteArray := prog_1_method_3_code
def yX8_value : MethodName := ⟨RX8, "value", "(II)I"⟩
abbrev cX8_refer : ByteArray := prog_1_method_4_code
def yX8_refer : MethodName := ⟨RX8, "refer", "(III)I"⟩
abbrev cX8_go : ByteArray := prog_1_method_5_code
def yX8_go : MethodName := ⟨RX8, "go", "(I)I"⟩
abbrev cX8_of : ByteArray := prog_1_method_6_code
def yX8_of : MethodName := ⟨RX8, "of", "(II)I"⟩
abbrev cX8_feed : ByteArray := prog_1_method_7_code
def yX8_feed : MethodName := ⟨RX8, "feed", "(IIIII)I"⟩
abbrev cX8_end : ByteArray := prog_1_method_8_code
def yX8_end : MethodName := ⟨RX8, "end", "(I)I"⟩
abbrev cX8_shape : ByteArray := prog_1_method_9_code
def yX8_shape : MethodName := ⟨RX8, "shape", "()I"⟩
abbrev cX8_fault : ByteArray := prog_1_method_10_code
def yX8_fault : MethodName := ⟨RX8, "fault", "()I"⟩
abbrev cX8_size : ByteArray := prog_1_method_11_code
def yX8_size : MethodName := ⟨RX8, "size", "(I)I"⟩
abbrev cX8_mark : ByteArray := prog_1_method_12_code
def yX8_mark : MethodName := ⟨RX8, "mark", "(II)I"⟩
abbrev cX8_page : ByteArray := prog_1_method_13_code
def yX8_page : MethodName := ⟨RX8, "page", "(IIII)I"⟩
abbrev cX8_reader : ByteArray := prog_1_method_14_code
def yX8_reader : MethodName := ⟨RX8, "reader", "(I)I"⟩
abbrev cX8_send : ByteArray := prog_1_method_15_code
def yX8_send : MethodName := ⟨RX8, "send", "()I"⟩
abbrev cX8_holds : ByteArray := prog_1_method_16_code
def yX8_holds : MethodName := ⟨RX8, "holds", "(II)I"⟩
abbrev cX8_same : ByteArray := prog_1_method_17_code
def yX8_same : MethodName := ⟨RX8, "same", "(I)I"⟩
abbrev cX8_edit : ByteArray := prog_1_method_18_code
def yX8_edit : MethodName := ⟨RX8, "edit", "(III)I"⟩
abbrev cX8_asOf : ByteArray := prog_1_method_19_code
def yX8_asOf : MethodName := ⟨RX8, "asOf", "(III)I"⟩
abbrev cX8_touched : ByteArray := prog_1_method_20_code
def yX8_touched : MethodName := ⟨RX8, "touched", "(II)I"⟩
abbrev cX8_count : ByteArray := prog_1_method_21_code
def yX8_count : MethodName := ⟨RX8, "count", "(I)I"⟩
abbrev cX8_status : ByteArray := prog_1_method_22_code
def yX8_status : MethodName := ⟨RX8, "status", "()I"⟩
abbrev cX8_refused : ByteArray := prog_1_method_23_code
def yX8_refused : MethodName := ⟨RX8, "refused", "(I)I"⟩
abbrev cX8_answered : ByteArray := prog_1_method_24_code
def yX8_answered : MethodName := ⟨RX8, "answered", "(I)I"⟩
abbrev cX8_isValue : ByteArray := prog_1_method_25_code
def yX8_isValue : MethodName := ⟨RX8, "isValue", "(I)Z"⟩
abbrev cX8_canBeReferredTo : ByteArray := prog_1_method_26_code
def yX8_canBeReferredTo : MethodName := ⟨RX8, "canBeReferredTo", "(I)Z"⟩
abbrev cX8_tell : ByteArray := prog_1_method_27_code
def yX8_tell : MethodName := ⟨RX8, "tell", "(LPaperRows$Row;)V"⟩
abbrev cX8_readerAt : ByteArray := prog_1_method_28_code
def yX8_readerAt : MethodName := ⟨RX8, "readerAt", "(I)LPaperRows$Reader;"⟩
abbrev cX8_isOtherwiseThen : ByteArray := prog_1_method_29_code
def yX8_isOtherwiseThen : MethodName := ⟨RX8, "isOtherwiseThen", "(I)Z"⟩
def RX9 : String := "PaperRowsModel"
def TX9 : u_T := fun k => match k with
  | 0 => ("PaperRowsModel", "thrown", "I", false)
  | 1 => ("PaperRowsModel", "status", "I", false)
  | 2 => ("PaperRowsModel", "moments", "I", false)
  | 3 => ("PaperRowsModel", "eSort", "[I", true)
  | 4 => ("PaperRowsModel", "eRow", "[I", true)
  | 5 => ("PaperRowsModel", "eA", "[I", true)
  | 6 => ("PaperRowsModel", "eB", "[I", true)
  | 7 => ("PaperRowsModel", "eC", "[I", true)
  | 8 => ("PaperRowsModel", "eD", "[I", true)
  | 9 => ("PaperRowsModel", "rows", "I", false)
  | 10 => ("PaperRowsModel", "rTable", "[I", true)
  | 11 => ("PaperRowsModel", "rValue", "[I", true)
  | 12 => ("PaperRowsModel", "rRefer", "[I", true)
  | 13 => ("PaperRowsModel", "isThere", "[Z", true)
  | 14 => ("PaperRowsModel", "parts", "I", false)
  | 15 => ("PaperRowsModel", "pTable", "[I", true)
  | 16 => ("PaperRowsModel", "pFirst", "[I", true)
  | 17 => ("PaperRowsModel", "iSort", "[I", true)
  | 18 => ("PaperRowsModel", "iRefer", "[I", true)
  | 19 => ("PaperRowsModel", "iPart", "[I", true)
  | 20 => ("PaperRowsModel", "iNext", "[I", true)
  | 21 => ("PaperRowsModel", "nParts", "I", false)
  | 22 => ("PaperRowsModel", "nItems", "I", false)
  | 23 => ("PaperRowsModel", "nTable", "[I", true)
  | 24 => ("PaperRowsModel", "nFirst", "[I", true)
  | 25 => ("PaperRowsModel", "nLast", "[I", true)
  | 26 => ("PaperRowsModel", "mSort", "[I", true)
  | 27 => ("PaperRowsModel", "mRefer", "[I", true)
  | 28 => ("PaperRowsModel", "mPart", "[I", true)
  | 29 => ("PaperRowsModel", "mNext", "[I", true)
  | 30 => ("PaperRowsModel", "open", "[I", true)
  | 31 => ("PaperRowsModel", "depth", "I", false)
  | 32 => ("PaperRowsModel", "tape", "[I", true)
  | 33 => ("PaperRowsModel", "taped", "I", false)
  | 34 => ("PaperRowsModel", "from", "I", false)
  | 35 => ("PaperRowsModel", "to", "I", false)
  | 36 => ("PaperRowsModel", "sort", "I", false)
  | 37 => ("PaperRowsModel", "worth", "J", false)
  | 38 => ("PaperRowsModel", "fault", "I", false)
  | 39 => ("PaperRowsModel", "bad", "Z", false)
  | 40 => ("PaperRowsModel", "marks", "I", false)
  | 41 => ("PaperRowsModel", "paper", "[I", true)
  | 42 => ("PaperRowsModel", "paperRow", "[I", true)
  | 43 => ("PaperRowsModel", "stands", "[Z", true)
  | 44 => ("PaperRowsModel", "pileRow", "[I", true)
  | 45 => ("PaperRowsModel", "pileItem", "[I", true)
  | 46 => ("PaperRowsModel", "pileAt", "[I", true)
  | 47 => ("PaperRowsModel", "piled", "I", false)
  | 48 => ("PaperRowsModel", "readers", "I", false)
  | 49 => ("PaperRowsModel", "dRow", "[I", true)
  | 50 => ("PaperRowsModel", "dMany", "[I", true)
  | 51 => ("PaperRowsModel", "held", "[I", true)
  | 52 => ("PaperRowsModel", "heldRow", "[I", true)
  | 53 => ("PaperRowsModel", "sent", "I", false)
  | _ => ("PaperRowsModel", "spare", "[I", true)
def tyX9 : Nat → FieldType := fun k => match k with
  | 0 => .int
  | 1 => .int
  | 2 => .int
  | 3 => .array .int
  | 4 => .array .int
  | 5 => .array .int
  | 6 => .array .int
  | 7 => .array .int
  | 8 => .array .int
  | 9 => .int
  | 10 => .array .int
  | 11 => .array .int
  | 12 => .array .int
  | 13 => .array .boolean
  | 14 => .int
  | 15 => .array .int
  | 16 => .array .int
  | 17 => .array .int
  | 18 => .array .int
  | 19 => .array .int
  | 20 => .array .int
  | 21 => .int
  | 22 => .int
  | 23 => .array .int
  | 24 => .array .int
  | 25 => .array .int
  | 26 => .array .int
  | 27 => .array .int
  | 28 => .array .int
  | 29 => .array .int
  | 30 => .array .int
  | 31 => .int
  | 32 => .array .int
  | 33 => .int
  | 34 => .int
  | 35 => .int
  | 36 => .int
  | 37 => .long
  | 38 => .int
  | 39 => .boolean
  | 40 => .int
  | 41 => .array .int
  | 42 => .array .int
  | 43 => .array .boolean
  | 44 => .array .int
  | 45 => .array .int
  | 46 => .array .int
  | 47 => .int
  | 48 => .int
  | 49 => .array .int
  | 50 => .array .int
  | 51 => .array .int
  | 52 => .array .int
  | 53 => .int
  | _ => .array .int
theorem nmX9 : ∀ a, a < 55 → ∀ b, b < 55 → a ≠ b → (TX9 a).2.1 ≠ (TX9 b).2.1 := by decide +kernel
theorem tyX9_ok : ∀ k, k < 55 → parseFieldDescriptor (TX9 k).2.2.1 = some (tyX9 k) := by decide +kernel
abbrev cX9_init : ByteArray := prog_11_method_1_code
def yX9_init : MethodName := ⟨RX9, "<init>", "()V"⟩
abbrev cX9_in : ByteArray := prog_11_method_3_code
def yX9_in : MethodName := ⟨RX9, "in", "(JJJ)Z"⟩
abbrev cX9_told : ByteArray := prog_11_method_4_code
def yX9_told : MethodName := ⟨RX9, "told", "(I)I"⟩
abbrev cX9_tell : ByteArray := prog_11_method_5_code
def yX9_tell : MethodName := ⟨RX9, "tell", "(IIIIII)V"⟩
abbrev cX9_goOne : ByteArray := prog_11_method_6_code
def yX9_goOne : MethodName := ⟨RX9, "goOne", "(I)V"⟩
abbrev cX9_goTo : ByteArray := prog_11_method_7_code
def yX9_goTo : MethodName := ⟨RX9, "goTo", "(I)V"⟩
abbrev cX9_isRow : ByteArray := prog_11_method_8_code
def yX9_isRow : MethodName := ⟨RX9, "isRow", "(I)Z"⟩
abbrev cX9_isValue : ByteArray := prog_11_method_9_code
def yX9_isValue : MethodName := ⟨RX9, "isValue", "(I)Z"⟩
abbrev cX9_row : ByteArray := prog_11_method_10_code
def yX9_row : MethodName := ⟨RX9, "row", "(IIII)I"⟩
abbrev cX9_value : ByteArray := prog_11_method_11_code
def yX9_value : MethodName := ⟨RX9, "value", "(II)I"⟩
abbrev cX9_refer : ByteArray := prog_11_method_12_code
def yX9_refer : MethodName := ⟨RX9, "refer", "(III)I"⟩
abbrev cX9_go : ByteArray := prog_11_method_13_code
def yX9_go : MethodName := ⟨RX9, "go", "(I)I"⟩
abbrev cX9_of : ByteArray := prog_11_method_14_code
def yX9_of : MethodName := ⟨RX9, "of", "(II)I"⟩
abbrev cX9_four : ByteArray := prog_11_method_15_code
def yX9_four : MethodName := ⟨RX9, "four", "(I)V"⟩
abbrev cX9_feed : ByteArray := prog_11_method_16_code
def yX9_feed : MethodName := ⟨RX9, "feed", "(IIIII)I"⟩
abbrev cX9_end : ByteArray := prog_11_method_17_code
def yX9_end : MethodName := ⟨RX9, "end", "(I)I"⟩
abbrev cX9_isSmall : ByteArray := prog_11_method_18_code
def yX9_isSmall : MethodName := ⟨RX9, "isSmall", "(I)Z"⟩
abbrev cX9_isDigit : ByteArray := prog_11_method_19_code
def yX9_isDigit : MethodName := ⟨RX9, "isDigit", "(I)Z"⟩
abbrev cX9_next : ByteArray := prog_11_method_20_code
def yX9_next : MethodName := ⟨RX9, "next", "()V"⟩
abbrev cX9_isWord : ByteArray := prog_11_method_21_code
def yX9_isWord : MethodName := ⟨RX9, "isWord", "(IIII)Z"⟩
abbrev cX9_isSign : ByteArray := prog_11_method_22_code
def yX9_isSign : MethodName := ⟨RX9, "isSign", "(I)Z"⟩
abbrev cX9_must : ByteArray := prog_11_method_23_code
def yX9_must : MethodName := ⟨RX9, "must", "(Z)V"⟩
abbrev cX9_readPart : ByteArray := prog_11_method_24_code
def yX9_readPart : MethodName := ⟨RX9, "readPart", "()Z"⟩
abbrev cX9_readItem : ByteArray := prog_11_method_25_code
def yX9_readItem : MethodName := ⟨RX9, "readItem", "()Z"⟩
abbrev cX9_shape : ByteArray := prog_11_method_26_code
def yX9_shape : MethodName := ⟨RX9, "shape", "()I"⟩
abbrev cX9_fault : ByteArray := prog_11_method_27_code
def yX9_fault : MethodName := ⟨RX9, "fault", "()I"⟩
abbrev cX9_write : ByteArray := prog_11_method_28_code
def yX9_write : MethodName := ⟨RX9, "write", "(II)V"⟩
abbrev cX9_begin : ByteArray := prog_11_method_29_code
def yX9_begin : MethodName := ⟨RX9, "begin", "(II)V"⟩
abbrev cX9_nextRow : ByteArray := prog_11_method_30_code
def yX9_nextRow : MethodName := ⟨RX9, "nextRow", "(III)I"⟩
abbrev cX9_make : ByteArray := prog_11_method_31_code
def yX9_make : MethodName := ⟨RX9, "make", "(I)V"⟩
abbrev cX9_size : ByteArray := prog_11_method_32_code
def yX9_size : MethodName := ⟨RX9, "size", "(I)I"⟩
abbrev cX9_mark : ByteArray := prog_11_method_33_code
def yX9_mark : MethodName := ⟨RX9, "mark", "(II)I"⟩
abbrev cX9_page : ByteArray := prog_11_method_34_code
def yX9_page : MethodName := ⟨RX9, "page", "(IIII)I"⟩
abbrev cX9_asOf : ByteArray := prog_11_method_35_code
def yX9_asOf : MethodName := ⟨RX9, "asOf", "(III)I"⟩
abbrev cX9_isReader : ByteArray := prog_11_method_36_code
def yX9_isReader : MethodName := ⟨RX9, "isReader", "(I)Z"⟩
abbrev cX9_reader : ByteArray := prog_11_method_37_code
def yX9_reader : MethodName := ⟨RX9, "reader", "(I)I"⟩
abbrev cX9_isHeld : ByteArray := prog_11_method_38_code
def yX9_isHeld : MethodName := ⟨RX9, "isHeld", "(I)Z"⟩
abbrev cX9_send : ByteArray := prog_11_method_39_code
def yX9_send : MethodName := ⟨RX9, "send", "()I"⟩
abbrev cX9_holds : ByteArray := prog_11_method_40_code
def yX9_holds : MethodName := ⟨RX9, "holds", "(II)I"⟩
abbrev cX9_same : ByteArray := prog_11_method_41_code
def yX9_same : MethodName := ⟨RX9, "same", "(I)I"⟩
abbrev cX9_edit : ByteArray := prog_11_method_42_code
def yX9_edit : MethodName := ⟨RX9, "edit", "(III)I"⟩
abbrev cX9_touched : ByteArray := prog_11_method_43_code
def yX9_touched : MethodName := ⟨RX9, "touched", "(II)I"⟩
abbrev cX9_count : ByteArray := prog_11_method_44_code
def yX9_count : MethodName := ⟨RX9, "count", "(I)I"⟩
abbrev cX9_status : ByteArray := prog_11_method_45_code
def yX9_status : MethodName := ⟨RX9, "status", "()I"⟩
def RJ9 : String := "java/lang/Math"
def TJ9 : u_T := fun k => match k with
  | _ => ("", "", "", false)
def tyJ9 : Nat → FieldType := fun k => match k with
  | _ => .int
theorem nmJ9 : ∀ a, a < 0 → ∀ b, b < 0 → a ≠ b → (TJ9 a).2.1 ≠ (TJ9 b).2.1 := by decide +kernel
theorem tyJ9_ok : ∀ k, k < 0 → parseFieldDescriptor (TJ9 k).2.2.1 = some (tyJ9 k) := by decide +kernel
abbrev cJ9_max_7cf53 : ByteArray := prog_12_method_65_code
def yJ9_max_7cf53 : MethodName := ⟨RJ9, "max", "(II)I"⟩
abbrev cJ9_max_f86c9 : ByteArray := prog_12_method_66_code
def yJ9_max_f86c9 : MethodName := ⟨RJ9, "max", "(JJ)J"⟩
abbrev cJ9_min_7cf53 : ByteArray := prog_12_method_69_code
def yJ9_min_7cf53 : MethodName := ⟨RJ9, "min", "(II)I"⟩
abbrev cJ9_min_f86c9 : ByteArray := prog_12_method_70_code
def yJ9_min_f86c9 : MethodName := ⟨RJ9, "min", "(JJ)J"⟩
def RJ0 : String := "java/lang/String"
def TJ0 : u_T := fun k => match k with
  | _ => ("", "", "", false)
def tyJ0 : Nat → FieldType := fun k => match k with
  | _ => .int
theorem nmJ0 : ∀ a, a < 0 → ∀ b, b < 0 → a ≠ b → (TJ0 a).2.1 ≠ (TJ0 b).2.1 := by decide +kernel
theorem tyJ0_ok : ∀ k, k < 0 → parseFieldDescriptor (TJ0 k).2.2.1 = some (tyJ0 k) := by decide +kernel
abbrev cJ0_length_8abf5 : ByteArray := prog_13_method_54_code
def yJ0_length_8abf5 : MethodName := ⟨RJ0, "length", "()I"⟩
abbrev cJ0_charAt_5068e : ByteArray := prog_13_method_56_code
def yJ0_charAt_5068e : MethodName := ⟨RJ0, "charAt", "(I)C"⟩
abbrev cJ0_coder_7d493 : ByteArray := prog_13_method_152_code
def yJ0_coder_7d493 : MethodName := ⟨RJ0, "coder", "()B"⟩
abbrev cJ0_isLatin1_aae02 : ByteArray := prog_13_method_154_code
def yJ0_isLatin1_aae02 : MethodName := ⟨RJ0, "isLatin1", "()Z"⟩
abbrev cJ0_checkIndex_df160 : ByteArray := prog_13_method_155_code
def yJ0_checkIndex_df160 : MethodName := ⟨RJ0, "checkIndex", "(II)V"⟩
def RJ1 : String := "java/lang/StringLatin1"
def TJ1 : u_T := fun k => match k with
  | _ => ("", "", "", false)
def tyJ1 : Nat → FieldType := fun k => match k with
  | _ => .int
theorem nmJ1 : ∀ a, a < 0 → ∀ b, b < 0 → a ≠ b → (TJ1 a).2.1 ≠ (TJ1 b).2.1 := by decide +kernel
theorem tyJ1_ok : ∀ k, k < 0 → parseFieldDescriptor (TJ1 k).2.2.1 = some (tyJ1 k) := by decide +kernel
abbrev cJ1_charAt_3b067 : ByteArray := prog_14_method_2_code
def yJ1_charAt_3b067 : MethodName := ⟨RJ1, "charAt", "([BI)C"⟩
def RJ2 : String := "java/lang/StringUTF16"
def TJ2 : u_T := fun k => match k with
  | _ => ("", "", "", false)
def tyJ2 : Nat → FieldType := fun k => match k with
  | _ => .int
theorem nmJ2 : ∀ a, a < 0 → ∀ b, b < 0 → a ≠ b → (TJ2 a).2.1 ≠ (TJ2 b).2.1 := by decide +kernel
theorem tyJ2_ok : ∀ k, k < 0 → parseFieldDescriptor (TJ2 k).2.2.1 = some (tyJ2 k) := by decide +kernel
abbrev cJ2_getChar_3b067 : ByteArray := prog_15_method_5_code
def yJ2_getChar_3b067 : MethodName := ⟨RJ2, "getChar", "([BI)C"⟩
abbrev cJ2_length_9d52b : ByteArray := prog_15_method_6_code
def yJ2_length_9d52b : MethodName := ⟨RJ2, "length", "([B)I"⟩
abbrev cJ2_charAt_3b067 : ByteArray := prog_15_method_83_code
def yJ2_charAt_3b067 : MethodName := ⟨RJ2, "charAt", "([BI)C"⟩
abbrev cJ2_checkIndex_2214a : ByteArray := prog_15_method_91_code
def yJ2_checkIndex_2214a : MethodName := ⟨RJ2, "checkIndex", "(I[B)V"⟩
def RJ3 : String := "jdk/internal/util/Preconditions"
def TJ3 : u_T := fun k => match k with
  | _ => ("", "", "", false)
def tyJ3 : Nat → FieldType := fun k => match k with
  | _ => .int
theorem nmJ3 : ∀ a, a < 0 → ∀ b, b < 0 → a ≠ b → (TJ3 a).2.1 ≠ (TJ3 b).2.1 := by decide +kernel
theorem tyJ3_ok : ∀ k, k < 0 → parseFieldDescriptor (TJ3 k).2.2.1 = some (tyJ3 k) := by decide +kernel
abbrev cJ3_checkIndex_8e157 : ByteArray := prog_16_method_11_code
def yJ3_checkIndex_8e157 : MethodName := ⟨RJ3, "checkIndex", "(IILjava/util/function/BiFunction;)I"⟩
def RL : String := "PaperRowsLaw"
abbrev cL_law : ByteArray := code
def yL_law : MethodName := ⟨RL, "law", "([I)Z"⟩
abbrev vwCl : List vw_C := [(RX0, TX0, 2), (RX1, TX1, 3), (RX2, TX2, 4), (RX3, TX3, 2), (RX4, TX4, 6), (RX5, TX5, 2), (RX6, TX6, 7), (RX7, TX7, 2), (RX8, TX8, 13), (RX9, TX9, 55)]
end
section
theorem dX0_init_0 : decode cX0_init 0 = .ok (.aload_n 0, 1) := by decide +kernel
theorem dX0_init_1 : decode cX0_init 1 = .ok (.invokespecial 3, 3) := by decide +kernel
theorem dX0_init_4 : decode cX0_init 4 = .ok (.aload_n 0, 1) := by decide +kernel
theorem dX0_init_5 : decode cX0_init 5 = .ok (.sipush 300, 3) := by decide +kernel
theorem dX0_init_8 : decode cX0_init 8 = .ok (.anewarray 9, 3) := by decide +kernel
theorem dX0_init_11 : decode cX0_init 11 = .ok (.putfield 11, 3) := by decide +kernel
theorem dX0_init_14 : decode cX0_init 14 = .ok (.aload_n 0, 1) := by decide +kernel
theorem dX0_init_15 : decode cX0_init 15 = .ok (.iconst 0, 1) := by decide +kernel
theorem dX0_init_16 : decode cX0_init 16 = .ok (.putfield 17, 3) := by decide +kernel
theorem dX0_init_19 : decode cX0_init 19 = .ok (.return_, 1) := by decide +kernel
theorem dX0_length_0 : decode cX0_length 0 = .ok (.aload_n 0, 1) := by decide +kernel
theorem dX0_length_1 : decode cX0_length 1 = .ok (.getfield 17, 3) := by decide +kernel
theorem dX0_length_4 : decode cX0_length 4 = .ok (.ireturn, 1) := by decide +kernel
theorem dX0_isFull_0 : decode cX0_isFull 0 = .ok (.aload_n 0, 1) := by decide +kernel
theorem dX0_isFull_1 : decode cX0_isFull 1 = .ok (.getfield 17, 3) := by decide +kernel
theorem dX0_isFull_4 : decode cX0_isFull 4 = .ok (.aload_n 0, 1) := by decide +kernel
theorem dX0_isFull_5 : decode cX0_isFull 5 = .ok (.getfield 11, 3) := by decide +kernel
theorem dX0_isFull_8 : decode cX0_isFull 8 = .ok (.arraylength, 1) := by decide +kernel
theorem dX0_isFull_9 : decode cX0_isFull 9 = .ok (.if_icmp .lt 7, 3) := by decide +kernel
theorem dX0_isFull_12 : decode cX0_isFull 12 = .ok (.iconst 1, 1) := by decide +kernel
theorem dX0_isFull_13 : decode cX0_isFull 13 = .ok (.goto 4, 3) := by decide +kernel
theorem dX0_isFull_16 : decode cX0_isFull 16 = .ok (.iconst 0, 1) := by decide +kernel
theorem dX0_isFull_17 : decode cX0_isFull 17 = .ok (.ireturn, 1) := by decide +kernel
theorem dX0_add_0 : decode cX0_add 0 = .ok (.aload_n 0, 1) := by decide +kernel
theorem dX0_add_1 : decode cX0_add 1 = .ok (.getfield 17, 3) := by decide +kernel
theorem dX0_add_4 : decode cX0_add 4 = .ok (.ifCond .lt 15, 3) := by decide +kernel
theorem dX0_add_7 : decode cX0_add 7 = .ok (.aload_n 0, 1) := by decide +kernel
theorem dX0_add_8 : decode cX0_add 8 = .ok (.getfield 17, 3) := by decide +kernel
theorem dX0_add_11 : decode cX0_add 11 = .ok (.aload_n 0, 1) := by decide +kernel
theorem dX0_add_12 : decode cX0_add 12 = .ok (.getfield 11, 3) := by decide +kernel
theorem dX0_add_15 : decode cX0_add 15 = .ok (.arraylength, 1) := by decide +kernel
theorem dX0_add_16 : decode cX0_add 16 = .ok (.if_icmp .lt 4, 3) := by decide +kernel
theorem dX0_add_19 : decode cX0_add 19 = .ok (.return_, 1) := by decide +kernel
theorem dX0_add_20 : decode cX0_add 20 = .ok (.aload_n 0, 1) := by decide +kernel
theorem dX0_add_21 : decode cX0_add 21 = .ok (.getfield 11, 3) := by decide +kernel
theorem dX0_add_24 : decode cX0_add 24 = .ok (.aload_n 0, 1) := by decide +kernel
theorem dX0_add_25 : decode cX0_add 25 = .ok (.getfield 17, 3) := by decide +kernel
theorem dX0_add_28 : decode cX0_add 28 = .ok (.aload_n 1, 1) := by decide +kernel
theorem dX0_add_29 : decode cX0_add 29 = .ok (.aastore, 1) := by decide +kernel
theorem dX0_add_30 : decode cX0_add 30 = .ok (.aload_n 0, 1) := by decide +kernel
theorem dX0_add_31 : decode cX0_add 31 = .ok (.dup, 1) := by decide +kernel
theorem dX0_add_32 : decode cX0_add 32 = .ok (.getfield 17, 3) := by decide +kernel
theorem dX0_add_35 : decode cX0_add 35 = .ok (.iconst 1, 1) := by decide +kernel
theorem dX0_add_36 : decode cX0_add 36 = .ok (.iadd, 1) := by decide +kernel
theorem dX0_add_37 : decode cX0_add 37 = .ok (.putfield 17, 3) := by decide +kernel
theorem dX0_add_40 : decode cX0_add 40 = .ok (.return_, 1) := by decide +kernel
theorem dX0_replay_0 : decode cX0_replay 0 = .ok (.iconst 0, 1) := by decide +kernel
theorem dX0_replay_1 : decode cX0_replay 1 = .ok (.istore_n 3, 1) := by decide +kernel
theorem dX0_replay_2 : decode cX0_replay 2 = .ok (.iload_n 3, 1) := by decide +kernel
theorem dX0_replay_3 : decode cX0_replay 3 = .ok (.iload_n 1, 1) := by decide +kernel
theorem dX0_replay_4 : decode cX0_replay 4 = .ok (.if_icmp .ge 37, 3) := by decide +kernel
theorem dX0_replay_7 : decode cX0_replay 7 = .ok (.iload_n 3, 1) := by decide +kernel
theorem dX0_replay_8 : decode cX0_replay 8 = .ok (.aload_n 0, 1) := by decide +kernel
theorem dX0_replay_9 : decode cX0_replay 9 = .ok (.getfield 11, 3) := by decide +kernel
theorem dX0_replay_12 : decode cX0_replay 12 = .ok (.arraylength, 1) := by decide +kernel
theorem dX0_replay_13 : decode cX0_replay 13 = .ok (.if_icmp .ge 28, 3) := by decide +kernel
theorem dX0_replay_16 : decode cX0_replay 16 = .ok (.aload_n 0, 1) := by decide +kernel
theorem dX0_replay_17 : decode cX0_replay 17 = .ok (.getfield 11, 3) := by decide +kernel
theorem dX0_replay_20 : decode cX0_replay 20 = .ok (.iload_n 3, 1) := by decide +kernel
theorem dX0_replay_21 : decode cX0_replay 21 = .ok (.aaload, 1) := by decide +kernel
theorem dX0_replay_22 : decode cX0_replay 22 = .ok (.astore 4, 2) := by decide +kernel
theorem dX0_replay_24 : decode cX0_replay 24 = .ok (.aload 4, 2) := by decide +kernel
theorem dX0_replay_26 : decode cX0_replay 26 = .ok (.ifnull 9, 3) := by decide +kernel
theorem dX0_replay_29 : decode cX0_replay 29 = .ok (.aload_n 2, 1) := by decide +kernel
theorem dX0_replay_30 : decode cX0_replay 30 = .ok (.aload 4, 2) := by decide +kernel
theorem dX0_replay_32 : decode cX0_replay 32 = .ok (.invokevirtual 21, 3) := by decide +kernel
theorem dX0_replay_35 : decode cX0_replay 35 = .ok (.iinc 3 1, 3) := by decide +kernel
theorem dX0_replay_38 : decode cX0_replay 38 = .ok (.goto (-36), 3) := by decide +kernel
theorem dX0_replay_41 : decode cX0_replay 41 = .ok (.return_, 1) := by decide +kernel
theorem dX1_init_0 : decode cX1_init 0 = .ok (.aload_n 0, 1) := by decide +kernel
theorem dX1_init_1 : decode cX1_init 1 = .ok (.invokespecial 3, 3) := by decide +kernel
theorem dX1_init_4 : decode cX1_init 4 = .ok (.aload_n 0, 1) := by decide +kernel
theorem dX1_init_5 : decode cX1_init 5 = .ok (.sipush 600, 3) := by decide +kernel
theorem dX1_init_8 : decode cX1_init 8 = .ok (.newarray .int, 2) := by decide +kernel
theorem dX1_init_10 : decode cX1_init 10 = .ok (.putfield 9, 3) := by decide +kernel
theorem dX1_init_13 : decode cX1_init 13 = .ok (.aload_n 0, 1) := by decide +kernel
theorem dX1_init_14 : decode cX1_init 14 = .ok (.iconst 0, 1) := by decide +kernel
theorem dX1_init_15 : decode cX1_init 15 = .ok (.putfield 15, 3) := by decide +kernel
theorem dX1_init_18 : decode cX1_init 18 = .ok (.aload_n 0, 1) := by decide +kernel
theorem dX1_init_19 : decode cX1_init 19 = .ok (.lconst 0, 1) := by decide +kernel
theorem dX1_init_20 : decode cX1_init 20 = .ok (.putfield 19, 3) := by decide +kernel
theorem dX1_init_23 : decode cX1_init 23 = .ok (.return_, 1) := by decide +kernel
theorem dX1_length_0 : decode cX1_length 0 = .ok (.aload_n 0, 1) := by decide +kernel
theorem dX1_length_1 : decode cX1_length 1 = .ok (.getfield 15, 3) := by decide +kernel
theorem dX1_length_4 : decode cX1_length 4 = .ok (.ireturn, 1) := by decide +kernel
theorem dX1_at_0 : decode cX1_at 0 = .ok (.iload_n 1, 1) := by decide +kernel
theorem dX1_at_1 : decode cX1_at 1 = .ok (.ifCond .lt 29, 3) := by decide +kernel
theorem dX1_at_4 : decode cX1_at 4 = .ok (.iload_n 1, 1) := by decide +kernel
theorem dX1_at_5 : decode cX1_at 5 = .ok (.aload_n 0, 1) := by decide +kernel
theorem dX1_at_6 : decode cX1_at 6 = .ok (.getfield 15, 3) := by decide +kernel
theorem dX1_at_9 : decode cX1_at 9 = .ok (.if_icmp .ge 21, 3) := by decide +kernel
theorem dX1_at_12 : decode cX1_at 12 = .ok (.iload_n 1, 1) := by decide +kernel
theorem dX1_at_13 : decode cX1_at 13 = .ok (.aload_n 0, 1) := by decide +kernel
theorem dX1_at_14 : decode cX1_at 14 = .ok (.getfield 9, 3) := by decide +kernel
theorem dX1_at_17 : decode cX1_at 17 = .ok (.arraylength, 1) := by decide +kernel
theorem dX1_at_18 : decode cX1_at 18 = .ok (.if_icmp .ge 12, 3) := by decide +kernel
theorem dX1_at_21 : decode cX1_at 21 = .ok (.aload_n 0, 1) := by decide +kernel
theorem dX1_at_22 : decode cX1_at 22 = .ok (.getfield 9, 3) := by decide +kernel
theorem dX1_at_25 : decode cX1_at 25 = .ok (.iload_n 1, 1) := by decide +kernel
theorem dX1_at_26 : decode cX1_at 26 = .ok (.iaload, 1) := by decide +kernel
theorem dX1_at_27 : decode cX1_at 27 = .ok (.goto 6, 3) := by decide +kernel
theorem dX1_at_30 : decode cX1_at 30 = .ok (.sipush (-5000), 3) := by decide +kernel
theorem dX1_at_33 : decode cX1_at 33 = .ok (.ireturn, 1) := by decide +kernel
theorem dX1_isValueAt_0 : decode cX1_isValueAt 0 = .ok (.aload_n 0, 1) := by decide +kernel
theorem dX1_isValueAt_1 : decode cX1_isValueAt 1 = .ok (.iload_n 1, 1) := by decide +kernel
theorem dX1_isValueAt_2 : decode cX1_isValueAt 2 = .ok (.invokevirtual 23, 3) := by decide +kernel
theorem dX1_isValueAt_5 : decode cX1_isValueAt 5 = .ok (.invokestatic 27, 3) := by decide +kernel
theorem dX1_isValueAt_8 : decode cX1_isValueAt 8 = .ok (.ireturn, 1) := by decide +kernel
theorem dX1_put_0 : decode cX1_put 0 = .ok (.iload_n 1, 1) := by decide +kernel
theorem dX1_put_1 : decode cX1_put 1 = .ok (.ifCond .lt 27, 3) := by decide +kernel
theorem dX1_put_4 : decode cX1_put 4 = .ok (.iload_n 1, 1) := by decide +kernel
theorem dX1_put_5 : decode cX1_put 5 = .ok (.aload_n 0, 1) := by decide +kernel
theorem dX1_put_6 : decode cX1_put 6 = .ok (.getfield 15, 3) := by decide +kernel
theorem dX1_put_9 : decode cX1_put 9 = .ok (.if_icmp .ge 19, 3) := by decide +kernel
theorem dX1_put_12 : decode cX1_put 12 = .ok (.iload_n 1, 1) := by decide +kernel
theorem dX1_put_13 : decode cX1_put 13 = .ok (.aload_n 0, 1) := by decide +kernel
theorem dX1_put_14 : decode cX1_put 14 = .ok (.getfield 9, 3) := by decide +kernel
theorem dX1_put_17 : decode cX1_put 17 = .ok (.arraylength, 1) := by decide +kernel
theorem dX1_put_18 : decode cX1_put 18 = .ok (.if_icmp .ge 10, 3) := by decide +kernel
theorem dX1_put_21 : decode cX1_put 21 = .ok (.aload_n 0, 1) := by decide +kernel
theorem dX1_put_22 : decode cX1_put 22 = .ok (.getfield 9, 3) := by decide +kernel
theorem dX1_put_25 : decode cX1_put 25 = .ok (.iload_n 1, 1) := by decide +kernel
theorem dX1_put_26 : decode cX1_put 26 = .ok (.iload_n 2, 1) := by decide +kernel
theorem dX1_put_27 : decode cX1_put 27 = .ok (.iastore, 1) := by decide +kernel
theorem dX1_put_28 : decode cX1_put 28 = .ok (.return_, 1) := by decide +kernel
theorem dX1_hasMarksOf_0 : decode cX1_hasMarksOf 0 = .ok (.aload_n 0, 1) := by decide +kernel
theorem dX1_hasMarksOf_1 : decode cX1_hasMarksOf 1 = .ok (.getfield 15, 3) := by decide +kernel
theorem dX1_hasMarksOf_4 : decode cX1_hasMarksOf 4 = .ok (.aload_n 1, 1) := by decide +kernel
theorem dX1_hasMarksOf_5 : decode cX1_hasMarksOf 5 = .ok (.getfield 15, 3) := by decide +kernel
theorem dX1_hasMarksOf_8 : decode cX1_hasMarksOf 8 = .ok (.if_icmp .eq 5, 3) := by decide +kernel
theorem dX1_hasMarksOf_11 : decode cX1_hasMarksOf 11 = .ok (.iconst 0, 1) := by decide +kernel
theorem dX1_hasMarksOf_12 : decode cX1_hasMarksOf 12 = .ok (.ireturn, 1) := by decide +kernel
theorem dX1_hasMarksOf_13 : decode cX1_hasMarksOf 13 = .ok (.iconst 0, 1) := by decide +kernel
theorem dX1_hasMarksOf_14 : decode cX1_hasMarksOf 14 = .ok (.istore_n 2, 1) := by decide +kernel
theorem dX1_hasMarksOf_15 : decode cX1_hasMarksOf 15 = .ok (.iload_n 2, 1) := by decide +kernel
theorem dX1_hasMarksOf_16 : decode cX1_hasMarksOf 16 = .ok (.aload_n 0, 1) := by decide +kernel
theorem dX1_hasMarksOf_17 : decode cX1_hasMarksOf 17 = .ok (.getfield 15, 3) := by decide +kernel
theorem dX1_hasMarksOf_20 : decode cX1_hasMarksOf 20 = .ok (.if_icmp .ge 31, 3) := by decide +kernel
theorem dX1_hasMarksOf_23 : decode cX1_hasMarksOf 23 = .ok (.iload_n 2, 1) := by decide +kernel
theorem dX1_hasMarksOf_24 : decode cX1_hasMarksOf 24 = .ok (.sipush 600, 3) := by decide +kernel
theorem dX1_hasMarksOf_27 : decode cX1_hasMarksOf 27 = .ok (.if_icmp .ge 24, 3) := by decide +kernel
theorem dX1_hasMarksOf_30 : decode cX1_hasMarksOf 30 = .ok (.aload_n 0, 1) := by decide +kernel
theorem dX1_hasMarksOf_31 : decode cX1_hasMarksOf 31 = .ok (.iload_n 2, 1) := by decide +kernel
theorem dX1_hasMarksOf_32 : decode cX1_hasMarksOf 32 = .ok (.invokevirtual 23, 3) := by decide +kernel
theorem dX1_hasMarksOf_35 : decode cX1_hasMarksOf 35 = .ok (.aload_n 1, 1) := by decide +kernel
theorem dX1_hasMarksOf_36 : decode cX1_hasMarksOf 36 = .ok (.iload_n 2, 1) := by decide +kernel
theorem dX1_hasMarksOf_37 : decode cX1_hasMarksOf 37 = .ok (.invokevirtual 23, 3) := by decide +kernel
theorem dX1_hasMarksOf_40 : decode cX1_hasMarksOf 40 = .ok (.if_icmp .eq 5, 3) := by decide +kernel
theorem dX1_hasMarksOf_43 : decode cX1_hasMarksOf 43 = .ok (.iconst 0, 1) := by decide +kernel
theorem dX1_hasMarksOf_44 : decode cX1_hasMarksOf 44 = .ok (.ireturn, 1) := by decide +kernel
theorem dX1_hasMarksOf_45 : decode cX1_hasMarksOf 45 = .ok (.iinc 2 1, 3) := by decide +kernel
theorem dX1_hasMarksOf_48 : decode cX1_hasMarksOf 48 = .ok (.goto (-33), 3) := by decide +kernel
theorem dX1_hasMarksOf_51 : decode cX1_hasMarksOf 51 = .ok (.iconst 1, 1) := by decide +kernel
theorem dX1_hasMarksOf_52 : decode cX1_hasMarksOf 52 = .ok (.ireturn, 1) := by decide +kernel
theorem dX1_takeFrom_0 : decode cX1_takeFrom 0 = .ok (.aload_n 0, 1) := by decide +kernel
theorem dX1_takeFrom_1 : decode cX1_takeFrom 1 = .ok (.aload_n 1, 1) := by decide +kernel
theorem dX1_takeFrom_2 : decode cX1_takeFrom 2 = .ok (.getfield 15, 3) := by decide +kernel
theorem dX1_takeFrom_5 : decode cX1_takeFrom 5 = .ok (.putfield 15, 3) := by decide +kernel
theorem dX1_takeFrom_8 : decode cX1_takeFrom 8 = .ok (.iconst 0, 1) := by decide +kernel
theorem dX1_takeFrom_9 : decode cX1_takeFrom 9 = .ok (.istore_n 2, 1) := by decide +kernel
theorem dX1_takeFrom_10 : decode cX1_takeFrom 10 = .ok (.iload_n 2, 1) := by decide +kernel
theorem dX1_takeFrom_11 : decode cX1_takeFrom 11 = .ok (.aload_n 0, 1) := by decide +kernel
theorem dX1_takeFrom_12 : decode cX1_takeFrom 12 = .ok (.getfield 15, 3) := by decide +kernel
theorem dX1_takeFrom_15 : decode cX1_takeFrom 15 = .ok (.if_icmp .ge 29, 3) := by decide +kernel
theorem dX1_takeFrom_18 : decode cX1_takeFrom 18 = .ok (.iload_n 2, 1) := by decide +kernel
theorem dX1_takeFrom_19 : decode cX1_takeFrom 19 = .ok (.aload_n 0, 1) := by decide +kernel
theorem dX1_takeFrom_20 : decode cX1_takeFrom 20 = .ok (.getfield 9, 3) := by decide +kernel
theorem dX1_takeFrom_23 : decode cX1_takeFrom 23 = .ok (.arraylength, 1) := by decide +kernel
theorem dX1_takeFrom_24 : decode cX1_takeFrom 24 = .ok (.if_icmp .ge 20, 3) := by decide +kernel
theorem dX1_takeFrom_27 : decode cX1_takeFrom 27 = .ok (.aload_n 0, 1) := by decide +kernel
theorem dX1_takeFrom_28 : decode cX1_takeFrom 28 = .ok (.getfield 9, 3) := by decide +kernel
theorem dX1_takeFrom_31 : decode cX1_takeFrom 31 = .ok (.iload_n 2, 1) := by decide +kernel
theorem dX1_takeFrom_32 : decode cX1_takeFrom 32 = .ok (.aload_n 1, 1) := by decide +kernel
theorem dX1_takeFrom_33 : decode cX1_takeFrom 33 = .ok (.iload_n 2, 1) := by decide +kernel
theorem dX1_takeFrom_34 : decode cX1_takeFrom 34 = .ok (.invokevirtual 23, 3) := by decide +kernel
theorem dX1_takeFrom_37 : decode cX1_takeFrom 37 = .ok (.iastore, 1) := by decide +kernel
theorem dX1_takeFrom_38 : decode cX1_takeFrom 38 = .ok (.iinc 2 1, 3) := by decide +kernel
theorem dX1_takeFrom_41 : decode cX1_takeFrom 41 = .ok (.goto (-31), 3) := by decide +kernel
theorem dX1_takeFrom_44 : decode cX1_takeFrom 44 = .ok (.return_, 1) := by decide +kernel
theorem dX1_rowAround_0 : decode cX1_rowAround 0 = .ok (.iconst 0, 1) := by decide +kernel
theorem dX1_rowAround_1 : decode cX1_rowAround 1 = .ok (.istore_n 2, 1) := by decide +kernel
theorem dX1_rowAround_2 : decode cX1_rowAround 2 = .ok (.iload_n 1, 1) := by decide +kernel
theorem dX1_rowAround_3 : decode cX1_rowAround 3 = .ok (.iconst 0, 1) := by decide +kernel
theorem dX1_rowAround_4 : decode cX1_rowAround 4 = .ok (.invokestatic 31, 3) := by decide +kernel
theorem dX1_rowAround_7 : decode cX1_rowAround 7 = .ok (.aload_n 0, 1) := by decide +kernel
theorem dX1_rowAround_8 : decode cX1_rowAround 8 = .ok (.getfield 15, 3) := by decide +kernel
theorem dX1_rowAround_11 : decode cX1_rowAround 11 = .ok (.invokestatic 37, 3) := by decide +kernel
theorem dX1_rowAround_14 : decode cX1_rowAround 14 = .ok (.iconst 1, 1) := by decide +kernel
theorem dX1_rowAround_15 : decode cX1_rowAround 15 = .ok (.isub, 1) := by decide +kernel
theorem dX1_rowAround_16 : decode cX1_rowAround 16 = .ok (.istore_n 3, 1) := by decide +kernel
theorem dX1_rowAround_17 : decode cX1_rowAround 17 = .ok (.iload_n 3, 1) := by decide +kernel
theorem dX1_rowAround_18 : decode cX1_rowAround 18 = .ok (.ifCond .lt 60, 3) := by decide +kernel
theorem dX1_rowAround_21 : decode cX1_rowAround 21 = .ok (.aload_n 0, 1) := by decide +kernel
theorem dX1_rowAround_22 : decode cX1_rowAround 22 = .ok (.iload_n 3, 1) := by decide +kernel
theorem dX1_rowAround_23 : decode cX1_rowAround 23 = .ok (.invokevirtual 23, 3) := by decide +kernel
theorem dX1_rowAround_26 : decode cX1_rowAround 26 = .ok (.istore 4, 2) := by decide +kernel
theorem dX1_rowAround_28 : decode cX1_rowAround 28 = .ok (.iload 4, 2) := by decide +kernel
theorem dX1_rowAround_30 : decode cX1_rowAround 30 = .ok (.sipush 30000, 3) := by decide +kernel
theorem dX1_rowAround_33 : decode cX1_rowAround 33 = .ok (.if_icmp .ne 9, 3) := by decide +kernel
theorem dX1_rowAround_36 : decode cX1_rowAround 36 = .ok (.iinc 2 1, 3) := by decide +kernel
theorem dX1_rowAround_39 : decode cX1_rowAround 39 = .ok (.goto 33, 3) := by decide +kernel
theorem dX1_rowAround_42 : decode cX1_rowAround 42 = .ok (.iload 4, 2) := by decide +kernel
theorem dX1_rowAround_44 : decode cX1_rowAround 44 = .ok (.sipush 10000, 3) := by decide +kernel
theorem dX1_rowAround_47 : decode cX1_rowAround 47 = .ok (.if_icmp .lt 25, 3) := by decide +kernel
theorem dX1_rowAround_50 : decode cX1_rowAround 50 = .ok (.iload 4, 2) := by decide +kernel
theorem dX1_rowAround_52 : decode cX1_rowAround 52 = .ok (.sipush 20000, 3) := by decide +kernel
theorem dX1_rowAround_55 : decode cX1_rowAround 55 = .ok (.if_icmp .ge 17, 3) := by decide +kernel
theorem dX1_rowAround_58 : decode cX1_rowAround 58 = .ok (.iload_n 2, 1) := by decide +kernel
theorem dX1_rowAround_59 : decode cX1_rowAround 59 = .ok (.ifCond .ne 10, 3) := by decide +kernel
theorem dX1_rowAround_62 : decode cX1_rowAround 62 = .ok (.iload 4, 2) := by decide +kernel
theorem dX1_rowAround_64 : decode cX1_rowAround 64 = .ok (.sipush 10000, 3) := by decide +kernel
theorem dX1_rowAround_67 : decode cX1_rowAround 67 = .ok (.isub, 1) := by decide +kernel
theorem dX1_rowAround_68 : decode cX1_rowAround 68 = .ok (.ireturn, 1) := by decide +kernel
theorem dX1_rowAround_69 : decode cX1_rowAround 69 = .ok (.iinc 2 (-1), 3) := by decide +kernel
theorem dX1_rowAround_72 : decode cX1_rowAround 72 = .ok (.iinc 3 (-1), 3) := by decide +kernel
theorem dX1_rowAround_75 : decode cX1_rowAround 75 = .ok (.goto (-58), 3) := by decide +kernel
theorem dX1_rowAround_78 : decode cX1_rowAround 78 = .ok (.iconst (-1), 1) := by decide +kernel
theorem dX1_rowAround_79 : decode cX1_rowAround 79 = .ok (.ireturn, 1) := by decide +kernel
theorem dX1_gather_0 : decode cX1_gather 0 = .ok (.aload_n 0, 1) := by decide +kernel
theorem dX1_gather_1 : decode cX1_gather 1 = .ok (.iconst 0, 1) := by decide +kernel
theorem dX1_gather_2 : decode cX1_gather 2 = .ok (.putfield 15, 3) := by decide +kernel
theorem dX1_gather_5 : decode cX1_gather 5 = .ok (.aload_n 0, 1) := by decide +kernel
theorem dX1_gather_6 : decode cX1_gather 6 = .ok (.lconst 0, 1) := by decide +kernel
theorem dX1_gather_7 : decode cX1_gather 7 = .ok (.putfield 19, 3) := by decide +kernel
theorem dX1_gather_10 : decode cX1_gather 10 = .ok (.aload_n 2, 1) := by decide +kernel
theorem dX1_gather_11 : decode cX1_gather 11 = .ok (.iload_n 3, 1) := by decide +kernel
theorem dX1_gather_12 : decode cX1_gather 12 = .ok (.invokevirtual 40, 3) := by decide +kernel
theorem dX1_gather_15 : decode cX1_gather 15 = .ok (.astore 4, 2) := by decide +kernel
theorem dX1_gather_17 : decode cX1_gather 17 = .ok (.aload 4, 2) := by decide +kernel
theorem dX1_gather_19 : decode cX1_gather 19 = .ok (.ifnull 26, 3) := by decide +kernel
theorem dX1_gather_22 : decode cX1_gather 22 = .ok (.aload 4, 2) := by decide +kernel
theorem dX1_gather_24 : decode cX1_gather 24 = .ok (.getfield 46, 3) := by decide +kernel
theorem dX1_gather_27 : decode cX1_gather 27 = .ok (.aload_n 1, 1) := by decide +kernel
theorem dX1_gather_28 : decode cX1_gather 28 = .ok (.iconst 0, 1) := by decide +kernel
theorem dX1_gather_29 : decode cX1_gather 29 = .ok (.invokevirtual 51, 3) := by decide +kernel
theorem dX1_gather_32 : decode cX1_gather 32 = .ok (.if_icmp .ne 13, 3) := by decide +kernel
theorem dX1_gather_35 : decode cX1_gather 35 = .ok (.aload_n 0, 1) := by decide +kernel
theorem dX1_gather_36 : decode cX1_gather 36 = .ok (.aload_n 1, 1) := by decide +kernel
theorem dX1_gather_37 : decode cX1_gather 37 = .ok (.aload_n 2, 1) := by decide +kernel
theorem dX1_gather_38 : decode cX1_gather 38 = .ok (.iconst 0, 1) := by decide +kernel
theorem dX1_gather_39 : decode cX1_gather 39 = .ok (.aload 4, 2) := by decide +kernel
theorem dX1_gather_41 : decode cX1_gather 41 = .ok (.iconst 0, 1) := by decide +kernel
theorem dX1_gather_42 : decode cX1_gather 42 = .ok (.invokevirtual 56, 3) := by decide +kernel
theorem dX1_gather_45 : decode cX1_gather 45 = .ok (.return_, 1) := by decide +kernel
theorem dX1_addPart_0 : decode cX1_addPart 0 = .ok (.iload 5, 2) := by decide +kernel
theorem dX1_addPart_2 : decode cX1_addPart 2 = .ok (.bipush 6, 2) := by decide +kernel
theorem dX1_addPart_4 : decode cX1_addPart 4 = .ok (.if_icmp .gt 10, 3) := by decide +kernel
theorem dX1_addPart_7 : decode cX1_addPart 7 = .ok (.aload_n 0, 1) := by decide +kernel
theorem dX1_addPart_8 : decode cX1_addPart 8 = .ok (.invokevirtual 60, 3) := by decide +kernel
theorem dX1_addPart_11 : decode cX1_addPart 11 = .ok (.ifCond .eq 4, 3) := by decide +kernel
theorem dX1_addPart_14 : decode cX1_addPart 14 = .ok (.return_, 1) := by decide +kernel
theorem dX1_addPart_15 : decode cX1_addPart 15 = .ok (.lconst 1, 1) := by decide +kernel
theorem dX1_addPart_16 : decode cX1_addPart 16 = .ok (.aload 4, 2) := by decide +kernel
theorem dX1_addPart_18 : decode cX1_addPart 18 = .ok (.getfield 64, 3) := by decide +kernel
theorem dX1_addPart_21 : decode cX1_addPart 21 = .ok (.lshl, 1) := by decide +kernel
theorem dX1_addPart_22 : decode cX1_addPart 22 = .ok (.lstore 6, 2) := by decide +kernel
theorem dX1_addPart_24 : decode cX1_addPart 24 = .ok (.aload_n 0, 1) := by decide +kernel
theorem dX1_addPart_25 : decode cX1_addPart 25 = .ok (.getfield 19, 3) := by decide +kernel
theorem dX1_addPart_28 : decode cX1_addPart 28 = .ok (.lload 6, 2) := by decide +kernel
theorem dX1_addPart_30 : decode cX1_addPart 30 = .ok (.land, 1) := by decide +kernel
theorem dX1_addPart_31 : decode cX1_addPart 31 = .ok (.lconst 0, 1) := by decide +kernel
theorem dX1_addPart_32 : decode cX1_addPart 32 = .ok (.lcmp, 1) := by decide +kernel
theorem dX1_addPart_33 : decode cX1_addPart 33 = .ok (.ifCond .eq 17, 3) := by decide +kernel
theorem dX1_addPart_36 : decode cX1_addPart 36 = .ok (.aload_n 0, 1) := by decide +kernel
theorem dX1_addPart_37 : decode cX1_addPart 37 = .ok (.sipush 20000, 3) := by decide +kernel
theorem dX1_addPart_40 : decode cX1_addPart 40 = .ok (.aload 4, 2) := by decide +kernel
theorem dX1_addPart_42 : decode cX1_addPart 42 = .ok (.getfield 64, 3) := by decide +kernel
theorem dX1_addPart_45 : decode cX1_addPart 45 = .ok (.iadd, 1) := by decide +kernel
theorem dX1_addPart_46 : decode cX1_addPart 46 = .ok (.invokevirtual 67, 3) := by decide +kernel
theorem dX1_addPart_49 : decode cX1_addPart 49 = .ok (.return_, 1) := by decide +kernel
theorem dX1_addPart_50 : decode cX1_addPart 50 = .ok (.aload_n 0, 1) := by decide +kernel
theorem dX1_addPart_51 : decode cX1_addPart 51 = .ok (.dup, 1) := by decide +kernel
theorem dX1_addPart_52 : decode cX1_addPart 52 = .ok (.getfield 19, 3) := by decide +kernel
theorem dX1_addPart_55 : decode cX1_addPart 55 = .ok (.lload 6, 2) := by decide +kernel
theorem dX1_addPart_57 : decode cX1_addPart 57 = .ok (.lor, 1) := by decide +kernel
theorem dX1_addPart_58 : decode cX1_addPart 58 = .ok (.putfield 19, 3) := by decide +kernel
theorem dX1_addPart_61 : decode cX1_addPart 61 = .ok (.aload_n 0, 1) := by decide +kernel
theorem dX1_addPart_62 : decode cX1_addPart 62 = .ok (.sipush 10000, 3) := by decide +kernel
theorem dX1_addPart_65 : decode cX1_addPart 65 = .ok (.aload 4, 2) := by decide +kernel
theorem dX1_addPart_67 : decode cX1_addPart 67 = .ok (.getfield 64, 3) := by decide +kernel
theorem dX1_addPart_70 : decode cX1_addPart 70 = .ok (.iadd, 1) := by decide +kernel
theorem dX1_addPart_71 : decode cX1_addPart 71 = .ok (.invokevirtual 67, 3) := by decide +kernel
theorem dX1_addPart_74 : decode cX1_addPart 74 = .ok (.aload_n 1, 1) := by decide +kernel
theorem dX1_addPart_75 : decode cX1_addPart 75 = .ok (.invokevirtual 71, 3) := by decide +kernel
theorem dX1_addPart_78 : decode cX1_addPart 78 = .ok (.istore 8, 2) := by decide +kernel
theorem dX1_addPart_80 : decode cX1_addPart 80 = .ok (.iconst 0, 1) := by decide +kernel
theorem dX1_addPart_81 : decode cX1_addPart 81 = .ok (.istore 9, 2) := by decide +kernel
theorem dX1_addPart_83 : decode cX1_addPart 83 = .ok (.iload 9, 2) := by decide +kernel
theorem dX1_addPart_85 : decode cX1_addPart 85 = .ok (.iload 8, 2) := by decide +kernel
theorem dX1_addPart_87 : decode cX1_addPart 87 = .ok (.if_icmp .ge 87, 3) := by decide +kernel
theorem dX1_addPart_90 : decode cX1_addPart 90 = .ok (.aload_n 1, 1) := by decide +kernel
theorem dX1_addPart_91 : decode cX1_addPart 91 = .ok (.iload 9, 2) := by decide +kernel
theorem dX1_addPart_93 : decode cX1_addPart 93 = .ok (.invokevirtual 75, 3) := by decide +kernel
theorem dX1_addPart_96 : decode cX1_addPart 96 = .ok (.iload_n 3, 1) := by decide +kernel
theorem dX1_addPart_97 : decode cX1_addPart 97 = .ok (.if_icmp .ne 12, 3) := by decide +kernel
theorem dX1_addPart_100 : decode cX1_addPart 100 = .ok (.aload_n 1, 1) := by decide +kernel
theorem dX1_addPart_101 : decode cX1_addPart 101 = .ok (.iload 9, 2) := by decide +kernel
theorem dX1_addPart_103 : decode cX1_addPart 103 = .ok (.invokevirtual 78, 3) := by decide +kernel
theorem dX1_addPart_106 : decode cX1_addPart 106 = .ok (.goto 4, 3) := by decide +kernel
theorem dX1_addPart_109 : decode cX1_addPart 109 = .ok (.iconst (-1), 1) := by decide +kernel
theorem dX1_addPart_110 : decode cX1_addPart 110 = .ok (.istore 10, 2) := by decide +kernel
theorem dX1_addPart_112 : decode cX1_addPart 112 = .ok (.iload 10, 2) := by decide +kernel
theorem dX1_addPart_114 : decode cX1_addPart 114 = .ok (.ifCond .ne 15, 3) := by decide +kernel
theorem dX1_addPart_117 : decode cX1_addPart 117 = .ok (.aload_n 0, 1) := by decide +kernel
theorem dX1_addPart_118 : decode cX1_addPart 118 = .ok (.aload 4, 2) := by decide +kernel
theorem dX1_addPart_120 : decode cX1_addPart 120 = .ok (.getfield 81, 3) := by decide +kernel
theorem dX1_addPart_123 : decode cX1_addPart 123 = .ok (.invokevirtual 67, 3) := by decide +kernel
theorem dX1_addPart_126 : decode cX1_addPart 126 = .ok (.goto 42, 3) := by decide +kernel
theorem dX1_addPart_129 : decode cX1_addPart 129 = .ok (.iload 10, 2) := by decide +kernel
theorem dX1_addPart_131 : decode cX1_addPart 131 = .ok (.iconst 1, 1) := by decide +kernel
theorem dX1_addPart_132 : decode cX1_addPart 132 = .ok (.if_icmp .ne 18, 3) := by decide +kernel
theorem dX1_addPart_135 : decode cX1_addPart 135 = .ok (.aload_n 0, 1) := by decide +kernel
theorem dX1_addPart_136 : decode cX1_addPart 136 = .ok (.aload_n 1, 1) := by decide +kernel
theorem dX1_addPart_137 : decode cX1_addPart 137 = .ok (.aload_n 2, 1) := by decide +kernel
theorem dX1_addPart_138 : decode cX1_addPart 138 = .ok (.iload 9, 2) := by decide +kernel
theorem dX1_addPart_140 : decode cX1_addPart 140 = .ok (.aload 4, 2) := by decide +kernel
theorem dX1_addPart_142 : decode cX1_addPart 142 = .ok (.iload 5, 2) := by decide +kernel
theorem dX1_addPart_144 : decode cX1_addPart 144 = .ok (.invokevirtual 84, 3) := by decide +kernel
theorem dX1_addPart_147 : decode cX1_addPart 147 = .ok (.goto 21, 3) := by decide +kernel
theorem dX1_addPart_150 : decode cX1_addPart 150 = .ok (.iload 10, 2) := by decide +kernel
theorem dX1_addPart_152 : decode cX1_addPart 152 = .ok (.iconst 2, 1) := by decide +kernel
theorem dX1_addPart_153 : decode cX1_addPart 153 = .ok (.if_icmp .ne 15, 3) := by decide +kernel
theorem dX1_addPart_156 : decode cX1_addPart 156 = .ok (.aload_n 0, 1) := by decide +kernel
theorem dX1_addPart_157 : decode cX1_addPart 157 = .ok (.aload_n 1, 1) := by decide +kernel
theorem dX1_addPart_158 : decode cX1_addPart 158 = .ok (.aload_n 2, 1) := by decide +kernel
theorem dX1_addPart_159 : decode cX1_addPart 159 = .ok (.iload 9, 2) := by decide +kernel
theorem dX1_addPart_161 : decode cX1_addPart 161 = .ok (.aload 4, 2) := by decide +kernel
theorem dX1_addPart_163 : decode cX1_addPart 163 = .ok (.iload 5, 2) := by decide +kernel
theorem dX1_addPart_165 : decode cX1_addPart 165 = .ok (.invokevirtual 87, 3) := by decide +kernel
theorem dX1_addPart_168 : decode cX1_addPart 168 = .ok (.iinc 9 1, 3) := by decide +kernel
theorem dX1_addPart_171 : decode cX1_addPart 171 = .ok (.goto (-88), 3) := by decide +kernel
theorem dX1_addPart_174 : decode cX1_addPart 174 = .ok (.aload_n 0, 1) := by decide +kernel
theorem dX1_addPart_175 : decode cX1_addPart 175 = .ok (.sipush 30000, 3) := by decide +kernel
theorem dX1_addPart_178 : decode cX1_addPart 178 = .ok (.invokevirtual 67, 3) := by decide +kernel
theorem dX1_addPart_181 : decode cX1_addPart 181 = .ok (.return_, 1) := by decide +kernel
theorem dX1_addUp_0 : decode cX1_addUp 0 = .ok (.aload_n 1, 1) := by decide +kernel
theorem dX1_addUp_1 : decode cX1_addUp 1 = .ok (.iload_n 3, 1) := by decide +kernel
theorem dX1_addUp_2 : decode cX1_addUp 2 = .ok (.invokevirtual 90, 3) := by decide +kernel
theorem dX1_addUp_5 : decode cX1_addUp 5 = .ok (.istore 6, 2) := by decide +kernel
theorem dX1_addUp_7 : decode cX1_addUp 7 = .ok (.aload_n 2, 1) := by decide +kernel
theorem dX1_addUp_8 : decode cX1_addUp 8 = .ok (.aload 4, 2) := by decide +kernel
theorem dX1_addUp_10 : decode cX1_addUp 10 = .ok (.aload_n 1, 1) := by decide +kernel
theorem dX1_addUp_11 : decode cX1_addUp 11 = .ok (.iload_n 3, 1) := by decide +kernel
theorem dX1_addUp_12 : decode cX1_addUp 12 = .ok (.invokevirtual 93, 3) := by decide +kernel
theorem dX1_addUp_15 : decode cX1_addUp 15 = .ok (.invokevirtual 96, 3) := by decide +kernel
theorem dX1_addUp_18 : decode cX1_addUp 18 = .ok (.invokevirtual 40, 3) := by decide +kernel
theorem dX1_addUp_21 : decode cX1_addUp 21 = .ok (.astore 7, 2) := by decide +kernel
theorem dX1_addUp_23 : decode cX1_addUp 23 = .ok (.aload 7, 2) := by decide +kernel
theorem dX1_addUp_25 : decode cX1_addUp 25 = .ok (.ifnull 31, 3) := by decide +kernel
theorem dX1_addUp_28 : decode cX1_addUp 28 = .ok (.aload 7, 2) := by decide +kernel
theorem dX1_addUp_30 : decode cX1_addUp 30 = .ok (.getfield 46, 3) := by decide +kernel
theorem dX1_addUp_33 : decode cX1_addUp 33 = .ok (.aload_n 1, 1) := by decide +kernel
theorem dX1_addUp_34 : decode cX1_addUp 34 = .ok (.iload 6, 2) := by decide +kernel
theorem dX1_addUp_36 : decode cX1_addUp 36 = .ok (.invokevirtual 51, 3) := by decide +kernel
theorem dX1_addUp_39 : decode cX1_addUp 39 = .ok (.if_icmp .ne 17, 3) := by decide +kernel
theorem dX1_addUp_42 : decode cX1_addUp 42 = .ok (.aload_n 0, 1) := by decide +kernel
theorem dX1_addUp_43 : decode cX1_addUp 43 = .ok (.aload_n 1, 1) := by decide +kernel
theorem dX1_addUp_44 : decode cX1_addUp 44 = .ok (.aload_n 2, 1) := by decide +kernel
theorem dX1_addUp_45 : decode cX1_addUp 45 = .ok (.iload 6, 2) := by decide +kernel
theorem dX1_addUp_47 : decode cX1_addUp 47 = .ok (.aload 7, 2) := by decide +kernel
theorem dX1_addUp_49 : decode cX1_addUp 49 = .ok (.iload 5, 2) := by decide +kernel
theorem dX1_addUp_51 : decode cX1_addUp 51 = .ok (.iconst 1, 1) := by decide +kernel
theorem dX1_addUp_52 : decode cX1_addUp 52 = .ok (.iadd, 1) := by decide +kernel
theorem dX1_addUp_53 : decode cX1_addUp 53 = .ok (.invokevirtual 56, 3) := by decide +kernel
theorem dX1_addUp_56 : decode cX1_addUp 56 = .ok (.return_, 1) := by decide +kernel
theorem dX1_addDown_0 : decode cX1_addDown 0 = .ok (.aload_n 1, 1) := by decide +kernel
theorem dX1_addDown_1 : decode cX1_addDown 1 = .ok (.iload_n 3, 1) := by decide +kernel
theorem dX1_addDown_2 : decode cX1_addDown 2 = .ok (.invokevirtual 90, 3) := by decide +kernel
theorem dX1_addDown_5 : decode cX1_addDown 5 = .ok (.istore 6, 2) := by decide +kernel
theorem dX1_addDown_7 : decode cX1_addDown 7 = .ok (.aload_n 1, 1) := by decide +kernel
theorem dX1_addDown_8 : decode cX1_addDown 8 = .ok (.iload_n 3, 1) := by decide +kernel
theorem dX1_addDown_9 : decode cX1_addDown 9 = .ok (.invokevirtual 93, 3) := by decide +kernel
theorem dX1_addDown_12 : decode cX1_addDown 12 = .ok (.istore 7, 2) := by decide +kernel
theorem dX1_addDown_14 : decode cX1_addDown 14 = .ok (.aload_n 2, 1) := by decide +kernel
theorem dX1_addDown_15 : decode cX1_addDown 15 = .ok (.invokevirtual 99, 3) := by decide +kernel
theorem dX1_addDown_18 : decode cX1_addDown 18 = .ok (.istore 8, 2) := by decide +kernel
theorem dX1_addDown_20 : decode cX1_addDown 20 = .ok (.iconst 0, 1) := by decide +kernel
theorem dX1_addDown_21 : decode cX1_addDown 21 = .ok (.istore 9, 2) := by decide +kernel
theorem dX1_addDown_23 : decode cX1_addDown 23 = .ok (.iload 9, 2) := by decide +kernel
theorem dX1_addDown_25 : decode cX1_addDown 25 = .ok (.iload 8, 2) := by decide +kernel
theorem dX1_addDown_27 : decode cX1_addDown 27 = .ok (.if_icmp .ge 72, 3) := by decide +kernel
theorem dX1_addDown_30 : decode cX1_addDown 30 = .ok (.aload_n 0, 1) := by decide +kernel
theorem dX1_addDown_31 : decode cX1_addDown 31 = .ok (.invokevirtual 60, 3) := by decide +kernel
theorem dX1_addDown_34 : decode cX1_addDown 34 = .ok (.ifCond .ne 65, 3) := by decide +kernel
theorem dX1_addDown_37 : decode cX1_addDown 37 = .ok (.aload_n 2, 1) := by decide +kernel
theorem dX1_addDown_38 : decode cX1_addDown 38 = .ok (.iload 9, 2) := by decide +kernel
theorem dX1_addDown_40 : decode cX1_addDown 40 = .ok (.invokevirtual 40, 3) := by decide +kernel
theorem dX1_addDown_43 : decode cX1_addDown 43 = .ok (.astore 10, 2) := by decide +kernel
theorem dX1_addDown_45 : decode cX1_addDown 45 = .ok (.aload 10, 2) := by decide +kernel
theorem dX1_addDown_47 : decode cX1_addDown 47 = .ok (.ifnull 46, 3) := by decide +kernel
theorem dX1_addDown_50 : decode cX1_addDown 50 = .ok (.aload 10, 2) := by decide +kernel
theorem dX1_addDown_52 : decode cX1_addDown 52 = .ok (.getfield 46, 3) := by decide +kernel
theorem dX1_addDown_55 : decode cX1_addDown 55 = .ok (.aload_n 1, 1) := by decide +kernel
theorem dX1_addDown_56 : decode cX1_addDown 56 = .ok (.iload 6, 2) := by decide +kernel
theorem dX1_addDown_58 : decode cX1_addDown 58 = .ok (.invokevirtual 51, 3) := by decide +kernel
theorem dX1_addDown_61 : decode cX1_addDown 61 = .ok (.if_icmp .ne 32, 3) := by decide +kernel
theorem dX1_addDown_64 : decode cX1_addDown 64 = .ok (.aload 10, 2) := by decide +kernel
theorem dX1_addDown_66 : decode cX1_addDown 66 = .ok (.iload 7, 2) := by decide +kernel
theorem dX1_addDown_68 : decode cX1_addDown 68 = .ok (.invokevirtual 96, 3) := by decide +kernel
theorem dX1_addDown_71 : decode cX1_addDown 71 = .ok (.aload 4, 2) := by decide +kernel
theorem dX1_addDown_73 : decode cX1_addDown 73 = .ok (.getfield 64, 3) := by decide +kernel
theorem dX1_addDown_76 : decode cX1_addDown 76 = .ok (.if_icmp .ne 17, 3) := by decide +kernel
theorem dX1_addDown_79 : decode cX1_addDown 79 = .ok (.aload_n 0, 1) := by decide +kernel
theorem dX1_addDown_80 : decode cX1_addDown 80 = .ok (.aload_n 1, 1) := by decide +kernel
theorem dX1_addDown_81 : decode cX1_addDown 81 = .ok (.aload_n 2, 1) := by decide +kernel
theorem dX1_addDown_82 : decode cX1_addDown 82 = .ok (.iload 6, 2) := by decide +kernel
theorem dX1_addDown_84 : decode cX1_addDown 84 = .ok (.aload 10, 2) := by decide +kernel
theorem dX1_addDown_86 : decode cX1_addDown 86 = .ok (.iload 5, 2) := by decide +kernel
theorem dX1_addDown_88 : decode cX1_addDown 88 = .ok (.iconst 1, 1) := by decide +kernel
theorem dX1_addDown_89 : decode cX1_addDown 89 = .ok (.iadd, 1) := by decide +kernel
theorem dX1_addDown_90 : decode cX1_addDown 90 = .ok (.invokevirtual 56, 3) := by decide +kernel
theorem dX1_addDown_93 : decode cX1_addDown 93 = .ok (.iinc 9 1, 3) := by decide +kernel
theorem dX1_addDown_96 : decode cX1_addDown 96 = .ok (.goto (-73), 3) := by decide +kernel
theorem dX1_addDown_99 : decode cX1_addDown 99 = .ok (.return_, 1) := by decide +kernel
theorem dX1_isFull_0 : decode cX1_isFull 0 = .ok (.aload_n 0, 1) := by decide +kernel
theorem dX1_isFull_1 : decode cX1_isFull 1 = .ok (.getfield 15, 3) := by decide +kernel
theorem dX1_isFull_4 : decode cX1_isFull 4 = .ok (.aload_n 0, 1) := by decide +kernel
theorem dX1_isFull_5 : decode cX1_isFull 5 = .ok (.getfield 9, 3) := by decide +kernel
theorem dX1_isFull_8 : decode cX1_isFull 8 = .ok (.arraylength, 1) := by decide +kernel
theorem dX1_isFull_9 : decode cX1_isFull 9 = .ok (.if_icmp .lt 7, 3) := by decide +kernel
theorem dX1_isFull_12 : decode cX1_isFull 12 = .ok (.iconst 1, 1) := by decide +kernel
theorem dX1_isFull_13 : decode cX1_isFull 13 = .ok (.goto 4, 3) := by decide +kernel
theorem dX1_isFull_16 : decode cX1_isFull 16 = .ok (.iconst 0, 1) := by decide +kernel
theorem dX1_isFull_17 : decode cX1_isFull 17 = .ok (.ireturn, 1) := by decide +kernel
theorem dX1_add_0 : decode cX1_add 0 = .ok (.aload_n 0, 1) := by decide +kernel
theorem dX1_add_1 : decode cX1_add 1 = .ok (.getfield 15, 3) := by decide +kernel
theorem dX1_add_4 : decode cX1_add 4 = .ok (.ifCond .lt 15, 3) := by decide +kernel
theorem dX1_add_7 : decode cX1_add 7 = .ok (.aload_n 0, 1) := by decide +kernel
theorem dX1_add_8 : decode cX1_add 8 = .ok (.getfield 15, 3) := by decide +kernel
theorem dX1_add_11 : decode cX1_add 11 = .ok (.aload_n 0, 1) := by decide +kernel
theorem dX1_add_12 : decode cX1_add 12 = .ok (.getfield 9, 3) := by decide +kernel
theorem dX1_add_15 : decode cX1_add 15 = .ok (.arraylength, 1) := by decide +kernel
theorem dX1_add_16 : decode cX1_add 16 = .ok (.if_icmp .lt 4, 3) := by decide +kernel
theorem dX1_add_19 : decode cX1_add 19 = .ok (.return_, 1) := by decide +kernel
theorem dX1_add_20 : decode cX1_add 20 = .ok (.aload_n 0, 1) := by decide +kernel
theorem dX1_add_21 : decode cX1_add 21 = .ok (.getfield 9, 3) := by decide +kernel
theorem dX1_add_24 : decode cX1_add 24 = .ok (.aload_n 0, 1) := by decide +kernel
theorem dX1_add_25 : decode cX1_add 25 = .ok (.getfield 15, 3) := by decide +kernel
theorem dX1_add_28 : decode cX1_add 28 = .ok (.iload_n 1, 1) := by decide +kernel
theorem dX1_add_29 : decode cX1_add 29 = .ok (.iastore, 1) := by decide +kernel
theorem dX1_add_30 : decode cX1_add 30 = .ok (.aload_n 0, 1) := by decide +kernel
theorem dX1_add_31 : decode cX1_add 31 = .ok (.dup, 1) := by decide +kernel
theorem dX1_add_32 : decode cX1_add 32 = .ok (.getfield 15, 3) := by decide +kernel
theorem dX1_add_35 : decode cX1_add 35 = .ok (.iconst 1, 1) := by decide +kernel
theorem dX1_add_36 : decode cX1_add 36 = .ok (.iadd, 1) := by decide +kernel
theorem dX1_add_37 : decode cX1_add 37 = .ok (.putfield 15, 3) := by decide +kernel
theorem dX1_add_40 : decode cX1_add 40 = .ok (.return_, 1) := by decide +kernel
theorem dX3_init_0 : decode cX3_init 0 = .ok (.aload_n 0, 1) := by decide +kernel
theorem dX3_init_1 : decode cX3_init 1 = .ok (.invokespecial 1, 3) := by decide +kernel
theorem dX3_init_4 : decode cX3_init 4 = .ok (.aload_n 0, 1) := by decide +kernel
theorem dX3_init_5 : decode cX3_init 5 = .ok (.new 7, 3) := by decide +kernel
theorem dX3_init_8 : decode cX3_init 8 = .ok (.dup, 1) := by decide +kernel
theorem dX3_init_9 : decode cX3_init 9 = .ok (.invokespecial 9, 3) := by decide +kernel
theorem dX3_init_12 : decode cX3_init 12 = .ok (.putfield 10, 3) := by decide +kernel
theorem dX3_init_15 : decode cX3_init 15 = .ok (.aload_n 0, 1) := by decide +kernel
theorem dX3_init_16 : decode cX3_init 16 = .ok (.iload_n 1, 1) := by decide +kernel
theorem dX3_init_17 : decode cX3_init 17 = .ok (.putfield 16, 3) := by decide +kernel
theorem dX3_init_20 : decode cX3_init 20 = .ok (.return_, 1) := by decide +kernel
theorem dX4_init_0 : decode cX4_init 0 = .ok (.aload_n 0, 1) := by decide +kernel
theorem dX4_init_1 : decode cX4_init 1 = .ok (.invokespecial 1, 3) := by decide +kernel
theorem dX4_init_4 : decode cX4_init 4 = .ok (.aload_n 0, 1) := by decide +kernel
theorem dX4_init_5 : decode cX4_init 5 = .ok (.iload_n 1, 1) := by decide +kernel
theorem dX4_init_6 : decode cX4_init 6 = .ok (.putfield 7, 3) := by decide +kernel
theorem dX4_init_9 : decode cX4_init 9 = .ok (.aload_n 0, 1) := by decide +kernel
theorem dX4_init_10 : decode cX4_init 10 = .ok (.iload_n 2, 1) := by decide +kernel
theorem dX4_init_11 : decode cX4_init 11 = .ok (.putfield 13, 3) := by decide +kernel
theorem dX4_init_14 : decode cX4_init 14 = .ok (.aload_n 0, 1) := by decide +kernel
theorem dX4_init_15 : decode cX4_init 15 = .ok (.iload_n 3, 1) := by decide +kernel
theorem dX4_init_16 : decode cX4_init 16 = .ok (.putfield 16, 3) := by decide +kernel
theorem dX4_init_19 : decode cX4_init 19 = .ok (.aload_n 0, 1) := by decide +kernel
theorem dX4_init_20 : decode cX4_init 20 = .ok (.iload 4, 2) := by decide +kernel
theorem dX4_init_22 : decode cX4_init 22 = .ok (.putfield 19, 3) := by decide +kernel
theorem dX4_init_25 : decode cX4_init 25 = .ok (.aload_n 0, 1) := by decide +kernel
theorem dX4_init_26 : decode cX4_init 26 = .ok (.iload 5, 2) := by decide +kernel
theorem dX4_init_28 : decode cX4_init 28 = .ok (.putfield 22, 3) := by decide +kernel
theorem dX4_init_31 : decode cX4_init 31 = .ok (.aload_n 0, 1) := by decide +kernel
theorem dX4_init_32 : decode cX4_init 32 = .ok (.iload 6, 2) := by decide +kernel
theorem dX4_init_34 : decode cX4_init 34 = .ok (.putfield 25, 3) := by decide +kernel
theorem dX4_init_37 : decode cX4_init 37 = .ok (.return_, 1) := by decide +kernel
theorem dX4_withValue_0 : decode cX4_withValue 0 = .ok (.new 8, 3) := by decide +kernel
theorem dX4_withValue_3 : decode cX4_withValue 3 = .ok (.dup, 1) := by decide +kernel
theorem dX4_withValue_4 : decode cX4_withValue 4 = .ok (.aload_n 0, 1) := by decide +kernel
theorem dX4_withValue_5 : decode cX4_withValue 5 = .ok (.getfield 7, 3) := by decide +kernel
theorem dX4_withValue_8 : decode cX4_withValue 8 = .ok (.aload_n 0, 1) := by decide +kernel
theorem dX4_withValue_9 : decode cX4_withValue 9 = .ok (.getfield 13, 3) := by decide +kernel
theorem dX4_withValue_12 : decode cX4_withValue 12 = .ok (.iload_n 1, 1) := by decide +kernel
theorem dX4_withValue_13 : decode cX4_withValue 13 = .ok (.aload_n 0, 1) := by decide +kernel
theorem dX4_withValue_14 : decode cX4_withValue 14 = .ok (.getfield 19, 3) := by decide +kernel
theorem dX4_withValue_17 : decode cX4_withValue 17 = .ok (.aload_n 0, 1) := by decide +kernel
theorem dX4_withValue_18 : decode cX4_withValue 18 = .ok (.getfield 22, 3) := by decide +kernel
theorem dX4_withValue_21 : decode cX4_withValue 21 = .ok (.aload_n 0, 1) := by decide +kernel
theorem dX4_withValue_22 : decode cX4_withValue 22 = .ok (.getfield 25, 3) := by decide +kernel
theorem dX4_withValue_25 : decode cX4_withValue 25 = .ok (.invokespecial 29, 3) := by decide +kernel
theorem dX4_withValue_28 : decode cX4_withValue 28 = .ok (.areturn, 1) := by decide +kernel
theorem dX4_withReference_0 : decode cX4_withReference 0 = .ok (.new 8, 3) := by decide +kernel
theorem dX4_withReference_3 : decode cX4_withReference 3 = .ok (.dup, 1) := by decide +kernel
theorem dX4_withReference_4 : decode cX4_withReference 4 = .ok (.aload_n 0, 1) := by decide +kernel
theorem dX4_withReference_5 : decode cX4_withReference 5 = .ok (.getfield 7, 3) := by decide +kernel
theorem dX4_withReference_8 : decode cX4_withReference 8 = .ok (.aload_n 0, 1) := by decide +kernel
theorem dX4_withReference_9 : decode cX4_withReference 9 = .ok (.getfield 13, 3) := by decide +kernel
theorem dX4_withReference_12 : decode cX4_withReference 12 = .ok (.aload_n 0, 1) := by decide +kernel
theorem dX4_withReference_13 : decode cX4_withReference 13 = .ok (.getfield 16, 3) := by decide +kernel
theorem dX4_withReference_16 : decode cX4_withReference 16 = .ok (.iload_n 1, 1) := by decide +kernel
theorem dX4_withReference_17 : decode cX4_withReference 17 = .ok (.ifCond .ne 7, 3) := by decide +kernel
theorem dX4_withReference_20 : decode cX4_withReference 20 = .ok (.iload_n 2, 1) := by decide +kernel
theorem dX4_withReference_21 : decode cX4_withReference 21 = .ok (.goto 7, 3) := by decide +kernel
theorem dX4_withReference_24 : decode cX4_withReference 24 = .ok (.aload_n 0, 1) := by decide +kernel
theorem dX4_withReference_25 : decode cX4_withReference 25 = .ok (.getfield 19, 3) := by decide +kernel
theorem dX4_withReference_28 : decode cX4_withReference 28 = .ok (.iload_n 1, 1) := by decide +kernel
theorem dX4_withReference_29 : decode cX4_withReference 29 = .ok (.iconst 1, 1) := by decide +kernel
theorem dX4_withReference_30 : decode cX4_withReference 30 = .ok (.if_icmp .ne 7, 3) := by decide +kernel
theorem dX4_withReference_33 : decode cX4_withReference 33 = .ok (.iload_n 2, 1) := by decide +kernel
theorem dX4_withReference_34 : decode cX4_withReference 34 = .ok (.goto 7, 3) := by decide +kernel
theorem dX4_withReference_37 : decode cX4_withReference 37 = .ok (.aload_n 0, 1) := by decide +kernel
theorem dX4_withReference_38 : decode cX4_withReference 38 = .ok (.getfield 22, 3) := by decide +kernel
theorem dX4_withReference_41 : decode cX4_withReference 41 = .ok (.aload_n 0, 1) := by decide +kernel
theorem dX4_withReference_42 : decode cX4_withReference 42 = .ok (.getfield 25, 3) := by decide +kernel
theorem dX4_withReference_45 : decode cX4_withReference 45 = .ok (.invokespecial 29, 3) := by decide +kernel
theorem dX4_withReference_48 : decode cX4_withReference 48 = .ok (.areturn, 1) := by decide +kernel
theorem dX4_gone_0 : decode cX4_gone 0 = .ok (.new 8, 3) := by decide +kernel
theorem dX4_gone_3 : decode cX4_gone 3 = .ok (.dup, 1) := by decide +kernel
theorem dX4_gone_4 : decode cX4_gone 4 = .ok (.aload_n 0, 1) := by decide +kernel
theorem dX4_gone_5 : decode cX4_gone 5 = .ok (.getfield 7, 3) := by decide +kernel
theorem dX4_gone_8 : decode cX4_gone 8 = .ok (.aload_n 0, 1) := by decide +kernel
theorem dX4_gone_9 : decode cX4_gone 9 = .ok (.getfield 13, 3) := by decide +kernel
theorem dX4_gone_12 : decode cX4_gone 12 = .ok (.aload_n 0, 1) := by decide +kernel
theorem dX4_gone_13 : decode cX4_gone 13 = .ok (.getfield 16, 3) := by decide +kernel
theorem dX4_gone_16 : decode cX4_gone 16 = .ok (.aload_n 0, 1) := by decide +kernel
theorem dX4_gone_17 : decode cX4_gone 17 = .ok (.getfield 19, 3) := by decide +kernel
theorem dX4_gone_20 : decode cX4_gone 20 = .ok (.aload_n 0, 1) := by decide +kernel
theorem dX4_gone_21 : decode cX4_gone 21 = .ok (.getfield 22, 3) := by decide +kernel
theorem dX4_gone_24 : decode cX4_gone 24 = .ok (.iconst 0, 1) := by decide +kernel
theorem dX4_gone_25 : decode cX4_gone 25 = .ok (.invokespecial 29, 3) := by decide +kernel
theorem dX4_gone_28 : decode cX4_gone 28 = .ok (.areturn, 1) := by decide +kernel
theorem dX4_referenceBy_0 : decode cX4_referenceBy 0 = .ok (.iload_n 1, 1) := by decide +kernel
theorem dX4_referenceBy_1 : decode cX4_referenceBy 1 = .ok (.ifCond .ne 10, 3) := by decide +kernel
theorem dX4_referenceBy_4 : decode cX4_referenceBy 4 = .ok (.aload_n 0, 1) := by decide +kernel
theorem dX4_referenceBy_5 : decode cX4_referenceBy 5 = .ok (.getfield 19, 3) := by decide +kernel
theorem dX4_referenceBy_8 : decode cX4_referenceBy 8 = .ok (.goto 7, 3) := by decide +kernel
theorem dX4_referenceBy_11 : decode cX4_referenceBy 11 = .ok (.aload_n 0, 1) := by decide +kernel
theorem dX4_referenceBy_12 : decode cX4_referenceBy 12 = .ok (.getfield 22, 3) := by decide +kernel
theorem dX4_referenceBy_15 : decode cX4_referenceBy 15 = .ok (.ireturn, 1) := by decide +kernel
theorem dX5_init_0 : decode cX5_init 0 = .ok (.aload_n 0, 1) := by decide +kernel
theorem dX5_init_1 : decode cX5_init 1 = .ok (.invokespecial 3, 3) := by decide +kernel
theorem dX5_init_4 : decode cX5_init 4 = .ok (.aload_n 0, 1) := by decide +kernel
theorem dX5_init_5 : decode cX5_init 5 = .ok (.bipush 60, 2) := by decide +kernel
theorem dX5_init_7 : decode cX5_init 7 = .ok (.anewarray 9, 3) := by decide +kernel
theorem dX5_init_10 : decode cX5_init 10 = .ok (.putfield 11, 3) := by decide +kernel
theorem dX5_init_13 : decode cX5_init 13 = .ok (.aload_n 0, 1) := by decide +kernel
theorem dX5_init_14 : decode cX5_init 14 = .ok (.iconst 0, 1) := by decide +kernel
theorem dX5_init_15 : decode cX5_init 15 = .ok (.putfield 17, 3) := by decide +kernel
theorem dX5_init_18 : decode cX5_init 18 = .ok (.return_, 1) := by decide +kernel
theorem dX5_known_0 : decode cX5_known 0 = .ok (.aload_n 0, 1) := by decide +kernel
theorem dX5_known_1 : decode cX5_known 1 = .ok (.getfield 17, 3) := by decide +kernel
theorem dX5_known_4 : decode cX5_known 4 = .ok (.ireturn, 1) := by decide +kernel
theorem dX5_isFull_0 : decode cX5_isFull 0 = .ok (.aload_n 0, 1) := by decide +kernel
theorem dX5_isFull_1 : decode cX5_isFull 1 = .ok (.getfield 17, 3) := by decide +kernel
theorem dX5_isFull_4 : decode cX5_isFull 4 = .ok (.aload_n 0, 1) := by decide +kernel
theorem dX5_isFull_5 : decode cX5_isFull 5 = .ok (.getfield 11, 3) := by decide +kernel
theorem dX5_isFull_8 : decode cX5_isFull 8 = .ok (.arraylength, 1) := by decide +kernel
theorem dX5_isFull_9 : decode cX5_isFull 9 = .ok (.if_icmp .lt 7, 3) := by decide +kernel
theorem dX5_isFull_12 : decode cX5_isFull 12 = .ok (.iconst 1, 1) := by decide +kernel
theorem dX5_isFull_13 : decode cX5_isFull 13 = .ok (.goto 4, 3) := by decide +kernel
theorem dX5_isFull_16 : decode cX5_isFull 16 = .ok (.iconst 0, 1) := by decide +kernel
theorem dX5_isFull_17 : decode cX5_isFull 17 = .ok (.ireturn, 1) := by decide +kernel
theorem dX5_at_0 : decode cX5_at 0 = .ok (.iload_n 1, 1) := by decide +kernel
theorem dX5_at_1 : decode cX5_at 1 = .ok (.ifCond .lt 21, 3) := by decide +kernel
theorem dX5_at_4 : decode cX5_at 4 = .ok (.iload_n 1, 1) := by decide +kernel
theorem dX5_at_5 : decode cX5_at 5 = .ok (.aload_n 0, 1) := by decide +kernel
theorem dX5_at_6 : decode cX5_at 6 = .ok (.getfield 11, 3) := by decide +kernel
theorem dX5_at_9 : decode cX5_at 9 = .ok (.arraylength, 1) := by decide +kernel
theorem dX5_at_10 : decode cX5_at 10 = .ok (.if_icmp .ge 12, 3) := by decide +kernel
theorem dX5_at_13 : decode cX5_at 13 = .ok (.aload_n 0, 1) := by decide +kernel
theorem dX5_at_14 : decode cX5_at 14 = .ok (.getfield 11, 3) := by decide +kernel
theorem dX5_at_17 : decode cX5_at 17 = .ok (.iload_n 1, 1) := by decide +kernel
theorem dX5_at_18 : decode cX5_at 18 = .ok (.aaload, 1) := by decide +kernel
theorem dX5_at_19 : decode cX5_at 19 = .ok (.goto 4, 3) := by decide +kernel
theorem dX5_at_22 : decode cX5_at 22 = .ok (.aconst_null, 1) := by decide +kernel
theorem dX5_at_23 : decode cX5_at 23 = .ok (.areturn, 1) := by decide +kernel
theorem dX5_standing_0 : decode cX5_standing 0 = .ok (.aload_n 0, 1) := by decide +kernel
theorem dX5_standing_1 : decode cX5_standing 1 = .ok (.iload_n 1, 1) := by decide +kernel
theorem dX5_standing_2 : decode cX5_standing 2 = .ok (.invokevirtual 21, 3) := by decide +kernel
theorem dX5_standing_5 : decode cX5_standing 5 = .ok (.astore_n 2, 1) := by decide +kernel
theorem dX5_standing_6 : decode cX5_standing 6 = .ok (.aload_n 2, 1) := by decide +kernel
theorem dX5_standing_7 : decode cX5_standing 7 = .ok (.ifnull 14, 3) := by decide +kernel
theorem dX5_standing_10 : decode cX5_standing 10 = .ok (.aload_n 2, 1) := by decide +kernel
theorem dX5_standing_11 : decode cX5_standing 11 = .ok (.getfield 25, 3) := by decide +kernel
theorem dX5_standing_14 : decode cX5_standing 14 = .ok (.ifCond .eq 7, 3) := by decide +kernel
theorem dX5_standing_17 : decode cX5_standing 17 = .ok (.aload_n 2, 1) := by decide +kernel
theorem dX5_standing_18 : decode cX5_standing 18 = .ok (.goto 4, 3) := by decide +kernel
theorem dX5_standing_21 : decode cX5_standing 21 = .ok (.aconst_null, 1) := by decide +kernel
theorem dX5_standing_22 : decode cX5_standing 22 = .ok (.areturn, 1) := by decide +kernel
theorem dX5_standingOnes_0 : decode cX5_standingOnes 0 = .ok (.iconst 0, 1) := by decide +kernel
theorem dX5_standingOnes_1 : decode cX5_standingOnes 1 = .ok (.istore_n 1, 1) := by decide +kernel
theorem dX5_standingOnes_2 : decode cX5_standingOnes 2 = .ok (.iconst 0, 1) := by decide +kernel
theorem dX5_standingOnes_3 : decode cX5_standingOnes 3 = .ok (.istore_n 2, 1) := by decide +kernel
theorem dX5_standingOnes_4 : decode cX5_standingOnes 4 = .ok (.iload_n 2, 1) := by decide +kernel
theorem dX5_standingOnes_5 : decode cX5_standingOnes 5 = .ok (.aload_n 0, 1) := by decide +kernel
theorem dX5_standingOnes_6 : decode cX5_standingOnes 6 = .ok (.getfield 11, 3) := by decide +kernel
theorem dX5_standingOnes_9 : decode cX5_standingOnes 9 = .ok (.arraylength, 1) := by decide +kernel
theorem dX5_standingOnes_10 : decode cX5_standingOnes 10 = .ok (.if_icmp .ge 20, 3) := by decide +kernel
theorem dX5_standingOnes_13 : decode cX5_standingOnes 13 = .ok (.aload_n 0, 1) := by decide +kernel
theorem dX5_standingOnes_14 : decode cX5_standingOnes 14 = .ok (.iload_n 2, 1) := by decide +kernel
theorem dX5_standingOnes_15 : decode cX5_standingOnes 15 = .ok (.invokevirtual 29, 3) := by decide +kernel
theorem dX5_standingOnes_18 : decode cX5_standingOnes 18 = .ok (.ifnull 6, 3) := by decide +kernel
theorem dX5_standingOnes_21 : decode cX5_standingOnes 21 = .ok (.iinc 1 1, 3) := by decide +kernel
theorem dX5_standingOnes_24 : decode cX5_standingOnes 24 = .ok (.iinc 2 1, 3) := by decide +kernel
theorem dX5_standingOnes_27 : decode cX5_standingOnes 27 = .ok (.goto (-23), 3) := by decide +kernel
theorem dX5_standingOnes_30 : decode cX5_standingOnes 30 = .ok (.iload_n 1, 1) := by decide +kernel
theorem dX5_standingOnes_31 : decode cX5_standingOnes 31 = .ok (.ireturn, 1) := by decide +kernel
theorem dX5_put_0 : decode cX5_put 0 = .ok (.aload_n 1, 1) := by decide +kernel
theorem dX5_put_1 : decode cX5_put 1 = .ok (.getfield 32, 3) := by decide +kernel
theorem dX5_put_4 : decode cX5_put 4 = .ok (.istore_n 2, 1) := by decide +kernel
theorem dX5_put_5 : decode cX5_put 5 = .ok (.iload_n 2, 1) := by decide +kernel
theorem dX5_put_6 : decode cX5_put 6 = .ok (.ifCond .lt 12, 3) := by decide +kernel
theorem dX5_put_9 : decode cX5_put 9 = .ok (.iload_n 2, 1) := by decide +kernel
theorem dX5_put_10 : decode cX5_put 10 = .ok (.aload_n 0, 1) := by decide +kernel
theorem dX5_put_11 : decode cX5_put 11 = .ok (.getfield 11, 3) := by decide +kernel
theorem dX5_put_14 : decode cX5_put 14 = .ok (.arraylength, 1) := by decide +kernel
theorem dX5_put_15 : decode cX5_put 15 = .ok (.if_icmp .lt 4, 3) := by decide +kernel
theorem dX5_put_18 : decode cX5_put 18 = .ok (.return_, 1) := by decide +kernel
theorem dX5_put_19 : decode cX5_put 19 = .ok (.aload_n 0, 1) := by decide +kernel
theorem dX5_put_20 : decode cX5_put 20 = .ok (.getfield 11, 3) := by decide +kernel
theorem dX5_put_23 : decode cX5_put 23 = .ok (.iload_n 2, 1) := by decide +kernel
theorem dX5_put_24 : decode cX5_put 24 = .ok (.aload_n 1, 1) := by decide +kernel
theorem dX5_put_25 : decode cX5_put 25 = .ok (.aastore, 1) := by decide +kernel
theorem dX5_put_26 : decode cX5_put 26 = .ok (.aload_n 0, 1) := by decide +kernel
theorem dX5_put_27 : decode cX5_put 27 = .ok (.aload_n 0, 1) := by decide +kernel
theorem dX5_put_28 : decode cX5_put 28 = .ok (.getfield 17, 3) := by decide +kernel
theorem dX5_put_31 : decode cX5_put 31 = .ok (.iload_n 2, 1) := by decide +kernel
theorem dX5_put_32 : decode cX5_put 32 = .ok (.iconst 1, 1) := by decide +kernel
theorem dX5_put_33 : decode cX5_put 33 = .ok (.iadd, 1) := by decide +kernel
theorem dX5_put_34 : decode cX5_put 34 = .ok (.invokestatic 35, 3) := by decide +kernel
theorem dX5_put_37 : decode cX5_put 37 = .ok (.putfield 17, 3) := by decide +kernel
theorem dX5_put_40 : decode cX5_put 40 = .ok (.return_, 1) := by decide +kernel
theorem dX5_clear_0 : decode cX5_clear 0 = .ok (.iconst 0, 1) := by decide +kernel
theorem dX5_clear_1 : decode cX5_clear 1 = .ok (.istore_n 1, 1) := by decide +kernel
theorem dX5_clear_2 : decode cX5_clear 2 = .ok (.iload_n 1, 1) := by decide +kernel
theorem dX5_clear_3 : decode cX5_clear 3 = .ok (.aload_n 0, 1) := by decide +kernel
theorem dX5_clear_4 : decode cX5_clear 4 = .ok (.getfield 11, 3) := by decide +kernel
theorem dX5_clear_7 : decode cX5_clear 7 = .ok (.arraylength, 1) := by decide +kernel
theorem dX5_clear_8 : decode cX5_clear 8 = .ok (.if_icmp .ge 16, 3) := by decide +kernel
theorem dX5_clear_11 : decode cX5_clear 11 = .ok (.aload_n 0, 1) := by decide +kernel
theorem dX5_clear_12 : decode cX5_clear 12 = .ok (.getfield 11, 3) := by decide +kernel
theorem dX5_clear_15 : decode cX5_clear 15 = .ok (.iload_n 1, 1) := by decide +kernel
theorem dX5_clear_16 : decode cX5_clear 16 = .ok (.aconst_null, 1) := by decide +kernel
theorem dX5_clear_17 : decode cX5_clear 17 = .ok (.aastore, 1) := by decide +kernel
theorem dX5_clear_18 : decode cX5_clear 18 = .ok (.iinc 1 1, 3) := by decide +kernel
theorem dX5_clear_21 : decode cX5_clear 21 = .ok (.goto (-19), 3) := by decide +kernel
theorem dX5_clear_24 : decode cX5_clear 24 = .ok (.aload_n 0, 1) := by decide +kernel
theorem dX5_clear_25 : decode cX5_clear 25 = .ok (.iconst 0, 1) := by decide +kernel
theorem dX5_clear_26 : decode cX5_clear 26 = .ok (.putfield 17, 3) := by decide +kernel
theorem dX5_clear_29 : decode cX5_clear 29 = .ok (.return_, 1) := by decide +kernel
theorem dX5_takeFrom_0 : decode cX5_takeFrom 0 = .ok (.iconst 0, 1) := by decide +kernel
theorem dX5_takeFrom_1 : decode cX5_takeFrom 1 = .ok (.istore_n 2, 1) := by decide +kernel
theorem dX5_takeFrom_2 : decode cX5_takeFrom 2 = .ok (.iload_n 2, 1) := by decide +kernel
theorem dX5_takeFrom_3 : decode cX5_takeFrom 3 = .ok (.aload_n 0, 1) := by decide +kernel
theorem dX5_takeFrom_4 : decode cX5_takeFrom 4 = .ok (.getfield 11, 3) := by decide +kernel
theorem dX5_takeFrom_7 : decode cX5_takeFrom 7 = .ok (.arraylength, 1) := by decide +kernel
theorem dX5_takeFrom_8 : decode cX5_takeFrom 8 = .ok (.if_icmp .ge 20, 3) := by decide +kernel
theorem dX5_takeFrom_11 : decode cX5_takeFrom 11 = .ok (.aload_n 0, 1) := by decide +kernel
theorem dX5_takeFrom_12 : decode cX5_takeFrom 12 = .ok (.getfield 11, 3) := by decide +kernel
theorem dX5_takeFrom_15 : decode cX5_takeFrom 15 = .ok (.iload_n 2, 1) := by decide +kernel
theorem dX5_takeFrom_16 : decode cX5_takeFrom 16 = .ok (.aload_n 1, 1) := by decide +kernel
theorem dX5_takeFrom_17 : decode cX5_takeFrom 17 = .ok (.iload_n 2, 1) := by decide +kernel
theorem dX5_takeFrom_18 : decode cX5_takeFrom 18 = .ok (.invokevirtual 21, 3) := by decide +kernel
theorem dX5_takeFrom_21 : decode cX5_takeFrom 21 = .ok (.aastore, 1) := by decide +kernel
theorem dX5_takeFrom_22 : decode cX5_takeFrom 22 = .ok (.iinc 2 1, 3) := by decide +kernel
theorem dX5_takeFrom_25 : decode cX5_takeFrom 25 = .ok (.goto (-23), 3) := by decide +kernel
theorem dX5_takeFrom_28 : decode cX5_takeFrom 28 = .ok (.aload_n 0, 1) := by decide +kernel
theorem dX5_takeFrom_29 : decode cX5_takeFrom 29 = .ok (.aload_n 1, 1) := by decide +kernel
theorem dX5_takeFrom_30 : decode cX5_takeFrom 30 = .ok (.getfield 17, 3) := by decide +kernel
theorem dX5_takeFrom_33 : decode cX5_takeFrom 33 = .ok (.putfield 17, 3) := by decide +kernel
theorem dX5_takeFrom_36 : decode cX5_takeFrom 36 = .ok (.return_, 1) := by decide +kernel
theorem dX6_init_0 : decode cX6_init 0 = .ok (.aload_n 0, 1) := by decide +kernel
theorem dX6_init_1 : decode cX6_init 1 = .ok (.invokespecial 3, 3) := by decide +kernel
theorem dX6_init_4 : decode cX6_init 4 = .ok (.aload_n 0, 1) := by decide +kernel
theorem dX6_init_5 : decode cX6_init 5 = .ok (.bipush 20, 2) := by decide +kernel
theorem dX6_init_7 : decode cX6_init 7 = .ok (.newarray .int, 2) := by decide +kernel
theorem dX6_init_9 : decode cX6_init 9 = .ok (.putfield 9, 3) := by decide +kernel
theorem dX6_init_12 : decode cX6_init 12 = .ok (.aload_n 0, 1) := by decide +kernel
theorem dX6_init_13 : decode cX6_init 13 = .ok (.bipush 100, 2) := by decide +kernel
theorem dX6_init_15 : decode cX6_init 15 = .ok (.newarray .int, 2) := by decide +kernel
theorem dX6_init_17 : decode cX6_init 17 = .ok (.putfield 15, 3) := by decide +kernel
theorem dX6_init_20 : decode cX6_init 20 = .ok (.aload_n 0, 1) := by decide +kernel
theorem dX6_init_21 : decode cX6_init 21 = .ok (.bipush 100, 2) := by decide +kernel
theorem dX6_init_23 : decode cX6_init 23 = .ok (.newarray .int, 2) := by decide +kernel
theorem dX6_init_25 : decode cX6_init 25 = .ok (.putfield 18, 3) := by decide +kernel
theorem dX6_init_28 : decode cX6_init 28 = .ok (.aload_n 0, 1) := by decide +kernel
theorem dX6_init_29 : decode cX6_init 29 = .ok (.bipush 100, 2) := by decide +kernel
theorem dX6_init_31 : decode cX6_init 31 = .ok (.newarray .int, 2) := by decide +kernel
theorem dX6_init_33 : decode cX6_init 33 = .ok (.putfield 21, 3) := by decide +kernel
theorem dX6_init_36 : decode cX6_init 36 = .ok (.aload_n 0, 1) := by decide +kernel
theorem dX6_init_37 : decode cX6_init 37 = .ok (.bipush 100, 2) := by decide +kernel
theorem dX6_init_39 : decode cX6_init 39 = .ok (.newarray .int, 2) := by decide +kernel
theorem dX6_init_41 : decode cX6_init 41 = .ok (.putfield 24, 3) := by decide +kernel
theorem dX6_init_44 : decode cX6_init 44 = .ok (.aload_n 0, 1) := by decide +kernel
theorem dX6_init_45 : decode cX6_init 45 = .ok (.iconst 0, 1) := by decide +kernel
theorem dX6_init_46 : decode cX6_init 46 = .ok (.putfield 27, 3) := by decide +kernel
theorem dX6_init_49 : decode cX6_init 49 = .ok (.aload_n 0, 1) := by decide +kernel
theorem dX6_init_50 : decode cX6_init 50 = .ok (.iconst 0, 1) := by decide +kernel
theorem dX6_init_51 : decode cX6_init 51 = .ok (.putfield 31, 3) := by decide +kernel
theorem dX6_init_54 : decode cX6_init 54 = .ok (.return_, 1) := by decide +kernel
theorem dX6_parts_0 : decode cX6_parts 0 = .ok (.aload_n 0, 1) := by decide +kernel
theorem dX6_parts_1 : decode cX6_parts 1 = .ok (.getfield 27, 3) := by decide +kernel
theorem dX6_parts_4 : decode cX6_parts 4 = .ok (.ireturn, 1) := by decide +kernel
theorem dX6_items_0 : decode cX6_items 0 = .ok (.aload_n 0, 1) := by decide +kernel
theorem dX6_items_1 : decode cX6_items 1 = .ok (.getfield 31, 3) := by decide +kernel
theorem dX6_items_4 : decode cX6_items 4 = .ok (.ireturn, 1) := by decide +kernel
theorem dX6_clear_0 : decode cX6_clear 0 = .ok (.aload_n 0, 1) := by decide +kernel
theorem dX6_clear_1 : decode cX6_clear 1 = .ok (.iconst 0, 1) := by decide +kernel
theorem dX6_clear_2 : decode cX6_clear 2 = .ok (.putfield 27, 3) := by decide +kernel
theorem dX6_clear_5 : decode cX6_clear 5 = .ok (.aload_n 0, 1) := by decide +kernel
theorem dX6_clear_6 : decode cX6_clear 6 = .ok (.iconst 0, 1) := by decide +kernel
theorem dX6_clear_7 : decode cX6_clear 7 = .ok (.putfield 31, 3) := by decide +kernel
theorem dX6_clear_10 : decode cX6_clear 10 = .ok (.return_, 1) := by decide +kernel
theorem dX6_hasRoomForPart_0 : decode cX6_hasRoomForPart 0 = .ok (.aload_n 0, 1) := by decide +kernel
theorem dX6_hasRoomForPart_1 : decode cX6_hasRoomForPart 1 = .ok (.getfield 27, 3) := by decide +kernel
theorem dX6_hasRoomForPart_4 : decode cX6_hasRoomForPart 4 = .ok (.aload_n 0, 1) := by decide +kernel
theorem dX6_hasRoomForPart_5 : decode cX6_hasRoomForPart 5 = .ok (.getfield 9, 3) := by decide +kernel
theorem dX6_hasRoomForPart_8 : decode cX6_hasRoomForPart 8 = .ok (.arraylength, 1) := by decide +kernel
theorem dX6_hasRoomForPart_9 : decode cX6_hasRoomForPart 9 = .ok (.if_icmp .ge 7, 3) := by decide +kernel
theorem dX6_hasRoomForPart_12 : decode cX6_hasRoomForPart 12 = .ok (.iconst 1, 1) := by decide +kernel
theorem dX6_hasRoomForPart_13 : decode cX6_hasRoomForPart 13 = .ok (.goto 4, 3) := by decide +kernel
theorem dX6_hasRoomForPart_16 : decode cX6_hasRoomForPart 16 = .ok (.iconst 0, 1) := by decide +kernel
theorem dX6_hasRoomForPart_17 : decode cX6_hasRoomForPart 17 = .ok (.ireturn, 1) := by decide +kernel
theorem dX6_addPart_0 : decode cX6_addPart 0 = .ok (.aload_n 0, 1) := by decide +kernel
theorem dX6_addPart_1 : decode cX6_addPart 1 = .ok (.getfield 27, 3) := by decide +kernel
theorem dX6_addPart_4 : decode cX6_addPart 4 = .ok (.ifCond .lt 15, 3) := by decide +kernel
theorem dX6_addPart_7 : decode cX6_addPart 7 = .ok (.aload_n 0, 1) := by decide +kernel
theorem dX6_addPart_8 : decode cX6_addPart 8 = .ok (.getfield 27, 3) := by decide +kernel
theorem dX6_addPart_11 : decode cX6_addPart 11 = .ok (.aload_n 0, 1) := by decide +kernel
theorem dX6_addPart_12 : decode cX6_addPart 12 = .ok (.getfield 9, 3) := by decide +kernel
theorem dX6_addPart_15 : decode cX6_addPart 15 = .ok (.arraylength, 1) := by decide +kernel
theorem dX6_addPart_16 : decode cX6_addPart 16 = .ok (.if_icmp .lt 4, 3) := by decide +kernel
theorem dX6_addPart_19 : decode cX6_addPart 19 = .ok (.return_, 1) := by decide +kernel
theorem dX6_addPart_20 : decode cX6_addPart 20 = .ok (.aload_n 0, 1) := by decide +kernel
theorem dX6_addPart_21 : decode cX6_addPart 21 = .ok (.getfield 9, 3) := by decide +kernel
theorem dX6_addPart_24 : decode cX6_addPart 24 = .ok (.aload_n 0, 1) := by decide +kernel
theorem dX6_addPart_25 : decode cX6_addPart 25 = .ok (.getfield 27, 3) := by decide +kernel
theorem dX6_addPart_28 : decode cX6_addPart 28 = .ok (.iload_n 1, 1) := by decide +kernel
theorem dX6_addPart_29 : decode cX6_addPart 29 = .ok (.iastore, 1) := by decide +kernel
theorem dX6_addPart_30 : decode cX6_addPart 30 = .ok (.aload_n 0, 1) := by decide +kernel
theorem dX6_addPart_31 : decode cX6_addPart 31 = .ok (.dup, 1) := by decide +kernel
theorem dX6_addPart_32 : decode cX6_addPart 32 = .ok (.getfield 27, 3) := by decide +kernel
theorem dX6_addPart_35 : decode cX6_addPart 35 = .ok (.iconst 1, 1) := by decide +kernel
theorem dX6_addPart_36 : decode cX6_addPart 36 = .ok (.iadd, 1) := by decide +kernel
theorem dX6_addPart_37 : decode cX6_addPart 37 = .ok (.putfield 27, 3) := by decide +kernel
theorem dX6_addPart_40 : decode cX6_addPart 40 = .ok (.return_, 1) := by decide +kernel
theorem dX6_addItem_0 : decode cX6_addItem 0 = .ok (.aload_n 0, 1) := by decide +kernel
theorem dX6_addItem_1 : decode cX6_addItem 1 = .ok (.getfield 31, 3) := by decide +kernel
theorem dX6_addItem_4 : decode cX6_addItem 4 = .ok (.ifCond .lt 12, 3) := by decide +kernel
theorem dX6_addItem_7 : decode cX6_addItem 7 = .ok (.aload_n 0, 1) := by decide +kernel
theorem dX6_addItem_8 : decode cX6_addItem 8 = .ok (.getfield 31, 3) := by decide +kernel
theorem dX6_addItem_11 : decode cX6_addItem 11 = .ok (.bipush 100, 2) := by decide +kernel
theorem dX6_addItem_13 : decode cX6_addItem 13 = .ok (.if_icmp .lt 4, 3) := by decide +kernel
theorem dX6_addItem_16 : decode cX6_addItem 16 = .ok (.return_, 1) := by decide +kernel
theorem dX6_addItem_17 : decode cX6_addItem 17 = .ok (.aload_n 0, 1) := by decide +kernel
theorem dX6_addItem_18 : decode cX6_addItem 18 = .ok (.getfield 15, 3) := by decide +kernel
theorem dX6_addItem_21 : decode cX6_addItem 21 = .ok (.aload_n 0, 1) := by decide +kernel
theorem dX6_addItem_22 : decode cX6_addItem 22 = .ok (.getfield 31, 3) := by decide +kernel
theorem dX6_addItem_25 : decode cX6_addItem 25 = .ok (.iload_n 1, 1) := by decide +kernel
theorem dX6_addItem_26 : decode cX6_addItem 26 = .ok (.iastore, 1) := by decide +kernel
theorem dX6_addItem_27 : decode cX6_addItem 27 = .ok (.aload_n 0, 1) := by decide +kernel
theorem dX6_addItem_28 : decode cX6_addItem 28 = .ok (.getfield 18, 3) := by decide +kernel
theorem dX6_addItem_31 : decode cX6_addItem 31 = .ok (.aload_n 0, 1) := by decide +kernel
theorem dX6_addItem_32 : decode cX6_addItem 32 = .ok (.getfield 31, 3) := by decide +kernel
theorem dX6_addItem_35 : decode cX6_addItem 35 = .ok (.iload_n 2, 1) := by decide +kernel
theorem dX6_addItem_36 : decode cX6_addItem 36 = .ok (.iastore, 1) := by decide +kernel
theorem dX6_addItem_37 : decode cX6_addItem 37 = .ok (.aload_n 0, 1) := by decide +kernel
theorem dX6_addItem_38 : decode cX6_addItem 38 = .ok (.getfield 21, 3) := by decide +kernel
theorem dX6_addItem_41 : decode cX6_addItem 41 = .ok (.aload_n 0, 1) := by decide +kernel
theorem dX6_addItem_42 : decode cX6_addItem 42 = .ok (.getfield 31, 3) := by decide +kernel
theorem dX6_addItem_45 : decode cX6_addItem 45 = .ok (.iload_n 3, 1) := by decide +kernel
theorem dX6_addItem_46 : decode cX6_addItem 46 = .ok (.iastore, 1) := by decide +kernel
theorem dX6_addItem_47 : decode cX6_addItem 47 = .ok (.aload_n 0, 1) := by decide +kernel
theorem dX6_addItem_48 : decode cX6_addItem 48 = .ok (.getfield 24, 3) := by decide +kernel
theorem dX6_addItem_51 : decode cX6_addItem 51 = .ok (.aload_n 0, 1) := by decide +kernel
theorem dX6_addItem_52 : decode cX6_addItem 52 = .ok (.getfield 31, 3) := by decide +kernel
theorem dX6_addItem_55 : decode cX6_addItem 55 = .ok (.iload 4, 2) := by decide +kernel
theorem dX6_addItem_57 : decode cX6_addItem 57 = .ok (.iastore, 1) := by decide +kernel
theorem dX6_addItem_58 : decode cX6_addItem 58 = .ok (.aload_n 0, 1) := by decide +kernel
theorem dX6_addItem_59 : decode cX6_addItem 59 = .ok (.dup, 1) := by decide +kernel
theorem dX6_addItem_60 : decode cX6_addItem 60 = .ok (.getfield 31, 3) := by decide +kernel
theorem dX6_addItem_63 : decode cX6_addItem 63 = .ok (.iconst 1, 1) := by decide +kernel
theorem dX6_addItem_64 : decode cX6_addItem 64 = .ok (.iadd, 1) := by decide +kernel
theorem dX6_addItem_65 : decode cX6_addItem 65 = .ok (.putfield 31, 3) := by decide +kernel
theorem dX6_addItem_68 : decode cX6_addItem 68 = .ok (.return_, 1) := by decide +kernel
theorem dX6_tableOf_0 : decode cX6_tableOf 0 = .ok (.iload_n 1, 1) := by decide +kernel
theorem dX6_tableOf_1 : decode cX6_tableOf 1 = .ok (.ifCond .lt 29, 3) := by decide +kernel
theorem dX6_tableOf_4 : decode cX6_tableOf 4 = .ok (.iload_n 1, 1) := by decide +kernel
theorem dX6_tableOf_5 : decode cX6_tableOf 5 = .ok (.aload_n 0, 1) := by decide +kernel
theorem dX6_tableOf_6 : decode cX6_tableOf 6 = .ok (.getfield 27, 3) := by decide +kernel
theorem dX6_tableOf_9 : decode cX6_tableOf 9 = .ok (.if_icmp .ge 21, 3) := by decide +kernel
theorem dX6_tableOf_12 : decode cX6_tableOf 12 = .ok (.iload_n 1, 1) := by decide +kernel
theorem dX6_tableOf_13 : decode cX6_tableOf 13 = .ok (.aload_n 0, 1) := by decide +kernel
theorem dX6_tableOf_14 : decode cX6_tableOf 14 = .ok (.getfield 9, 3) := by decide +kernel
theorem dX6_tableOf_17 : decode cX6_tableOf 17 = .ok (.arraylength, 1) := by decide +kernel
theorem dX6_tableOf_18 : decode cX6_tableOf 18 = .ok (.if_icmp .ge 12, 3) := by decide +kernel
theorem dX6_tableOf_21 : decode cX6_tableOf 21 = .ok (.aload_n 0, 1) := by decide +kernel
theorem dX6_tableOf_22 : decode cX6_tableOf 22 = .ok (.getfield 9, 3) := by decide +kernel
theorem dX6_tableOf_25 : decode cX6_tableOf 25 = .ok (.iload_n 1, 1) := by decide +kernel
theorem dX6_tableOf_26 : decode cX6_tableOf 26 = .ok (.iaload, 1) := by decide +kernel
theorem dX6_tableOf_27 : decode cX6_tableOf 27 = .ok (.goto 4, 3) := by decide +kernel
theorem dX6_tableOf_30 : decode cX6_tableOf 30 = .ok (.iconst (-1), 1) := by decide +kernel
theorem dX6_tableOf_31 : decode cX6_tableOf 31 = .ok (.ireturn, 1) := by decide +kernel
theorem dX6_isItem_0 : decode cX6_isItem 0 = .ok (.iload_n 1, 1) := by decide +kernel
theorem dX6_isItem_1 : decode cX6_isItem 1 = .ok (.ifCond .lt 21, 3) := by decide +kernel
theorem dX6_isItem_4 : decode cX6_isItem 4 = .ok (.iload_n 1, 1) := by decide +kernel
theorem dX6_isItem_5 : decode cX6_isItem 5 = .ok (.aload_n 0, 1) := by decide +kernel
theorem dX6_isItem_6 : decode cX6_isItem 6 = .ok (.getfield 31, 3) := by decide +kernel
theorem dX6_isItem_9 : decode cX6_isItem 9 = .ok (.if_icmp .ge 13, 3) := by decide +kernel
theorem dX6_isItem_12 : decode cX6_isItem 12 = .ok (.iload_n 1, 1) := by decide +kernel
theorem dX6_isItem_13 : decode cX6_isItem 13 = .ok (.bipush 100, 2) := by decide +kernel
theorem dX6_isItem_15 : decode cX6_isItem 15 = .ok (.if_icmp .ge 7, 3) := by decide +kernel
theorem dX6_isItem_18 : decode cX6_isItem 18 = .ok (.iconst 1, 1) := by decide +kernel
theorem dX6_isItem_19 : decode cX6_isItem 19 = .ok (.goto 4, 3) := by decide +kernel
theorem dX6_isItem_22 : decode cX6_isItem 22 = .ok (.iconst 0, 1) := by decide +kernel
theorem dX6_isItem_23 : decode cX6_isItem 23 = .ok (.ireturn, 1) := by decide +kernel
theorem dX6_ownerOf_0 : decode cX6_ownerOf 0 = .ok (.aload_n 0, 1) := by decide +kernel
theorem dX6_ownerOf_1 : decode cX6_ownerOf 1 = .ok (.iload_n 1, 1) := by decide +kernel
theorem dX6_ownerOf_2 : decode cX6_ownerOf 2 = .ok (.invokevirtual 34, 3) := by decide +kernel
theorem dX6_ownerOf_5 : decode cX6_ownerOf 5 = .ok (.ifCond .eq 12, 3) := by decide +kernel
theorem dX6_ownerOf_8 : decode cX6_ownerOf 8 = .ok (.aload_n 0, 1) := by decide +kernel
theorem dX6_ownerOf_9 : decode cX6_ownerOf 9 = .ok (.getfield 15, 3) := by decide +kernel
theorem dX6_ownerOf_12 : decode cX6_ownerOf 12 = .ok (.iload_n 1, 1) := by decide +kernel
theorem dX6_ownerOf_13 : decode cX6_ownerOf 13 = .ok (.iaload, 1) := by decide +kernel
theorem dX6_ownerOf_14 : decode cX6_ownerOf 14 = .ok (.goto 4, 3) := by decide +kernel
theorem dX6_ownerOf_17 : decode cX6_ownerOf 17 = .ok (.iconst (-1), 1) := by decide +kernel
theorem dX6_ownerOf_18 : decode cX6_ownerOf 18 = .ok (.ireturn, 1) := by decide +kernel
theorem dX6_kindOf_0 : decode cX6_kindOf 0 = .ok (.aload_n 0, 1) := by decide +kernel
theorem dX6_kindOf_1 : decode cX6_kindOf 1 = .ok (.iload_n 1, 1) := by decide +kernel
theorem dX6_kindOf_2 : decode cX6_kindOf 2 = .ok (.invokevirtual 34, 3) := by decide +kernel
theorem dX6_kindOf_5 : decode cX6_kindOf 5 = .ok (.ifCond .eq 12, 3) := by decide +kernel
theorem dX6_kindOf_8 : decode cX6_kindOf 8 = .ok (.aload_n 0, 1) := by decide +kernel
theorem dX6_kindOf_9 : decode cX6_kindOf 9 = .ok (.getfield 18, 3) := by decide +kernel
theorem dX6_kindOf_12 : decode cX6_kindOf 12 = .ok (.iload_n 1, 1) := by decide +kernel
theorem dX6_kindOf_13 : decode cX6_kindOf 13 = .ok (.iaload, 1) := by decide +kernel
theorem dX6_kindOf_14 : decode cX6_kindOf 14 = .ok (.goto 4, 3) := by decide +kernel
theorem dX6_kindOf_17 : decode cX6_kindOf 17 = .ok (.iconst (-1), 1) := by decide +kernel
theorem dX6_kindOf_18 : decode cX6_kindOf 18 = .ok (.ireturn, 1) := by decide +kernel
theorem dX6_referenceOf_0 : decode cX6_referenceOf 0 = .ok (.aload_n 0, 1) := by decide +kernel
theorem dX6_referenceOf_1 : decode cX6_referenceOf 1 = .ok (.iload_n 1, 1) := by decide +kernel
theorem dX6_referenceOf_2 : decode cX6_referenceOf 2 = .ok (.invokevirtual 34, 3) := by decide +kernel
theorem dX6_referenceOf_5 : decode cX6_referenceOf 5 = .ok (.ifCond .eq 12, 3) := by decide +kernel
theorem dX6_referenceOf_8 : decode cX6_referenceOf 8 = .ok (.aload_n 0, 1) := by decide +kernel
theorem dX6_referenceOf_9 : decode cX6_referenceOf 9 = .ok (.getfield 21, 3) := by decide +kernel
theorem dX6_referenceOf_12 : decode cX6_referenceOf 12 = .ok (.iload_n 1, 1) := by decide +kernel
theorem dX6_referenceOf_13 : decode cX6_referenceOf 13 = .ok (.iaload, 1) := by decide +kernel
theorem dX6_referenceOf_14 : decode cX6_referenceOf 14 = .ok (.goto 4, 3) := by decide +kernel
theorem dX6_referenceOf_17 : decode cX6_referenceOf 17 = .ok (.iconst (-1), 1) := by decide +kernel
theorem dX6_referenceOf_18 : decode cX6_referenceOf 18 = .ok (.ireturn, 1) := by decide +kernel
theorem dX6_partWithin_0 : decode cX6_partWithin 0 = .ok (.aload_n 0, 1) := by decide +kernel
theorem dX6_partWithin_1 : decode cX6_partWithin 1 = .ok (.iload_n 1, 1) := by decide +kernel
theorem dX6_partWithin_2 : decode cX6_partWithin 2 = .ok (.invokevirtual 34, 3) := by decide +kernel
theorem dX6_partWithin_5 : decode cX6_partWithin 5 = .ok (.ifCond .eq 12, 3) := by decide +kernel
theorem dX6_partWithin_8 : decode cX6_partWithin 8 = .ok (.aload_n 0, 1) := by decide +kernel
theorem dX6_partWithin_9 : decode cX6_partWithin 9 = .ok (.getfield 24, 3) := by decide +kernel
theorem dX6_partWithin_12 : decode cX6_partWithin 12 = .ok (.iload_n 1, 1) := by decide +kernel
theorem dX6_partWithin_13 : decode cX6_partWithin 13 = .ok (.iaload, 1) := by decide +kernel
theorem dX6_partWithin_14 : decode cX6_partWithin 14 = .ok (.goto 4, 3) := by decide +kernel
theorem dX6_partWithin_17 : decode cX6_partWithin 17 = .ok (.iconst (-1), 1) := by decide +kernel
theorem dX6_partWithin_18 : decode cX6_partWithin 18 = .ok (.ireturn, 1) := by decide +kernel
theorem dX7_init_0 : decode cX7_init 0 = .ok (.aload_n 0, 1) := by decide +kernel
theorem dX7_init_1 : decode cX7_init 1 = .ok (.invokespecial 3, 3) := by decide +kernel
theorem dX7_init_4 : decode cX7_init 4 = .ok (.aload_n 0, 1) := by decide +kernel
theorem dX7_init_5 : decode cX7_init 5 = .ok (.sipush 200, 3) := by decide +kernel
theorem dX7_init_8 : decode cX7_init 8 = .ok (.newarray .int, 2) := by decide +kernel
theorem dX7_init_10 : decode cX7_init 10 = .ok (.putfield 9, 3) := by decide +kernel
theorem dX7_init_13 : decode cX7_init 13 = .ok (.aload_n 0, 1) := by decide +kernel
theorem dX7_init_14 : decode cX7_init 14 = .ok (.iconst 0, 1) := by decide +kernel
theorem dX7_init_15 : decode cX7_init 15 = .ok (.putfield 15, 3) := by decide +kernel
theorem dX7_init_18 : decode cX7_init 18 = .ok (.return_, 1) := by decide +kernel
theorem dX7_length_0 : decode cX7_length 0 = .ok (.aload_n 0, 1) := by decide +kernel
theorem dX7_length_1 : decode cX7_length 1 = .ok (.getfield 15, 3) := by decide +kernel
theorem dX7_length_4 : decode cX7_length 4 = .ok (.ireturn, 1) := by decide +kernel
theorem dX7_addNumber_0 : decode cX7_addNumber 0 = .ok (.iconst 3, 1) := by decide +kernel
theorem dX7_addNumber_1 : decode cX7_addNumber 1 = .ok (.istore_n 2, 1) := by decide +kernel
theorem dX7_addNumber_2 : decode cX7_addNumber 2 = .ok (.iload_n 2, 1) := by decide +kernel
theorem dX7_addNumber_3 : decode cX7_addNumber 3 = .ok (.ifCond .lt 23, 3) := by decide +kernel
theorem dX7_addNumber_6 : decode cX7_addNumber 6 = .ok (.aload_n 0, 1) := by decide +kernel
theorem dX7_addNumber_7 : decode cX7_addNumber 7 = .ok (.iload_n 1, 1) := by decide +kernel
theorem dX7_addNumber_8 : decode cX7_addNumber 8 = .ok (.bipush 8, 2) := by decide +kernel
theorem dX7_addNumber_10 : decode cX7_addNumber 10 = .ok (.iload_n 2, 1) := by decide +kernel
theorem dX7_addNumber_11 : decode cX7_addNumber 11 = .ok (.imul, 1) := by decide +kernel
theorem dX7_addNumber_12 : decode cX7_addNumber 12 = .ok (.iushr, 1) := by decide +kernel
theorem dX7_addNumber_13 : decode cX7_addNumber 13 = .ok (.sipush 255, 3) := by decide +kernel
theorem dX7_addNumber_16 : decode cX7_addNumber 16 = .ok (.iand, 1) := by decide +kernel
theorem dX7_addNumber_17 : decode cX7_addNumber 17 = .ok (.invokevirtual 19, 3) := by decide +kernel
theorem dX7_addNumber_20 : decode cX7_addNumber 20 = .ok (.iinc 2 (-1), 3) := by decide +kernel
theorem dX7_addNumber_23 : decode cX7_addNumber 23 = .ok (.goto (-21), 3) := by decide +kernel
theorem dX7_addNumber_26 : decode cX7_addNumber 26 = .ok (.return_, 1) := by decide +kernel
theorem dX7_addByte_0 : decode cX7_addByte 0 = .ok (.aload_n 0, 1) := by decide +kernel
theorem dX7_addByte_1 : decode cX7_addByte 1 = .ok (.getfield 15, 3) := by decide +kernel
theorem dX7_addByte_4 : decode cX7_addByte 4 = .ok (.ifCond .lt 15, 3) := by decide +kernel
theorem dX7_addByte_7 : decode cX7_addByte 7 = .ok (.aload_n 0, 1) := by decide +kernel
theorem dX7_addByte_8 : decode cX7_addByte 8 = .ok (.getfield 15, 3) := by decide +kernel
theorem dX7_addByte_11 : decode cX7_addByte 11 = .ok (.aload_n 0, 1) := by decide +kernel
theorem dX7_addByte_12 : decode cX7_addByte 12 = .ok (.getfield 9, 3) := by decide +kernel
theorem dX7_addByte_15 : decode cX7_addByte 15 = .ok (.arraylength, 1) := by decide +kernel
theorem dX7_addByte_16 : decode cX7_addByte 16 = .ok (.if_icmp .lt 4, 3) := by decide +kernel
theorem dX7_addByte_19 : decode cX7_addByte 19 = .ok (.return_, 1) := by decide +kernel
theorem dX7_addByte_20 : decode cX7_addByte 20 = .ok (.aload_n 0, 1) := by decide +kernel
theorem dX7_addByte_21 : decode cX7_addByte 21 = .ok (.getfield 9, 3) := by decide +kernel
theorem dX7_addByte_24 : decode cX7_addByte 24 = .ok (.aload_n 0, 1) := by decide +kernel
theorem dX7_addByte_25 : decode cX7_addByte 25 = .ok (.getfield 15, 3) := by decide +kernel
theorem dX7_addByte_28 : decode cX7_addByte 28 = .ok (.iload_n 1, 1) := by decide +kernel
theorem dX7_addByte_29 : decode cX7_addByte 29 = .ok (.iastore, 1) := by decide +kernel
theorem dX7_addByte_30 : decode cX7_addByte 30 = .ok (.aload_n 0, 1) := by decide +kernel
theorem dX7_addByte_31 : decode cX7_addByte 31 = .ok (.dup, 1) := by decide +kernel
theorem dX7_addByte_32 : decode cX7_addByte 32 = .ok (.getfield 15, 3) := by decide +kernel
theorem dX7_addByte_35 : decode cX7_addByte 35 = .ok (.iconst 1, 1) := by decide +kernel
theorem dX7_addByte_36 : decode cX7_addByte 36 = .ok (.iadd, 1) := by decide +kernel
theorem dX7_addByte_37 : decode cX7_addByte 37 = .ok (.putfield 15, 3) := by decide +kernel
theorem dX7_addByte_40 : decode cX7_addByte 40 = .ok (.return_, 1) := by decide +kernel
theorem dX7_cutTo_0 : decode cX7_cutTo 0 = .ok (.aload_n 0, 1) := by decide +kernel
theorem dX7_cutTo_1 : decode cX7_cutTo 1 = .ok (.iconst 0, 1) := by decide +kernel
theorem dX7_cutTo_2 : decode cX7_cutTo 2 = .ok (.aload_n 0, 1) := by decide +kernel
theorem dX7_cutTo_3 : decode cX7_cutTo 3 = .ok (.getfield 15, 3) := by decide +kernel
theorem dX7_cutTo_6 : decode cX7_cutTo 6 = .ok (.iload_n 1, 1) := by decide +kernel
theorem dX7_cutTo_7 : decode cX7_cutTo 7 = .ok (.invokestatic 23, 3) := by decide +kernel
theorem dX7_cutTo_10 : decode cX7_cutTo 10 = .ok (.invokestatic 29, 3) := by decide +kernel
theorem dX7_cutTo_13 : decode cX7_cutTo 13 = .ok (.putfield 15, 3) := by decide +kernel
theorem dX7_cutTo_16 : decode cX7_cutTo 16 = .ok (.return_, 1) := by decide +kernel
theorem dX7_byteAt_0 : decode cX7_byteAt 0 = .ok (.iload_n 1, 1) := by decide +kernel
theorem dX7_byteAt_1 : decode cX7_byteAt 1 = .ok (.ifCond .lt 29, 3) := by decide +kernel
theorem dX7_byteAt_4 : decode cX7_byteAt 4 = .ok (.iload_n 1, 1) := by decide +kernel
theorem dX7_byteAt_5 : decode cX7_byteAt 5 = .ok (.aload_n 0, 1) := by decide +kernel
theorem dX7_byteAt_6 : decode cX7_byteAt 6 = .ok (.getfield 15, 3) := by decide +kernel
theorem dX7_byteAt_9 : decode cX7_byteAt 9 = .ok (.if_icmp .ge 21, 3) := by decide +kernel
theorem dX7_byteAt_12 : decode cX7_byteAt 12 = .ok (.iload_n 1, 1) := by decide +kernel
theorem dX7_byteAt_13 : decode cX7_byteAt 13 = .ok (.aload_n 0, 1) := by decide +kernel
theorem dX7_byteAt_14 : decode cX7_byteAt 14 = .ok (.getfield 9, 3) := by decide +kernel
theorem dX7_byteAt_17 : decode cX7_byteAt 17 = .ok (.arraylength, 1) := by decide +kernel
theorem dX7_byteAt_18 : decode cX7_byteAt 18 = .ok (.if_icmp .ge 12, 3) := by decide +kernel
theorem dX7_byteAt_21 : decode cX7_byteAt 21 = .ok (.aload_n 0, 1) := by decide +kernel
theorem dX7_byteAt_22 : decode cX7_byteAt 22 = .ok (.getfield 9, 3) := by decide +kernel
theorem dX7_byteAt_25 : decode cX7_byteAt 25 = .ok (.iload_n 1, 1) := by decide +kernel
theorem dX7_byteAt_26 : decode cX7_byteAt 26 = .ok (.iaload, 1) := by decide +kernel
theorem dX7_byteAt_27 : decode cX7_byteAt 27 = .ok (.goto 4, 3) := by decide +kernel
theorem dX7_byteAt_30 : decode cX7_byteAt 30 = .ok (.iconst (-1), 1) := by decide +kernel
theorem dX7_byteAt_31 : decode cX7_byteAt 31 = .ok (.ireturn, 1) := by decide +kernel
end
section
theorem dX2_init_0 : decode cX2_init 0 = .ok (.aload_n 0, 1) := by decide +kernel
theorem dX2_init_1 : decode cX2_init 1 = .ok (.invokespecial 3, 3) := by decide +kernel
theorem dX2_init_4 : decode cX2_init 4 = .ok (.aload_n 0, 1) := by decide +kernel
theorem dX2_init_5 : decode cX2_init 5 = .ok (.iconst 0, 1) := by decide +kernel
theorem dX2_init_6 : decode cX2_init 6 = .ok (.putfield 9, 3) := by decide +kernel
theorem dX2_init_9 : decode cX2_init 9 = .ok (.aload_n 0, 1) := by decide +kernel
theorem dX2_init_10 : decode cX2_init 10 = .ok (.iconst 0, 1) := by decide +kernel
theorem dX2_init_11 : decode cX2_init 11 = .ok (.putfield 15, 3) := by decide +kernel
theorem dX2_init_14 : decode cX2_init 14 = .ok (.aload_n 0, 1) := by decide +kernel
theorem dX2_init_15 : decode cX2_init 15 = .ok (.aload_n 1, 1) := by decide +kernel
theorem dX2_init_16 : decode cX2_init 16 = .ok (.putfield 18, 3) := by decide +kernel
theorem dX2_init_19 : decode cX2_init 19 = .ok (.aload_n 0, 1) := by decide +kernel
theorem dX2_init_20 : decode cX2_init 20 = .ok (.aload_n 2, 1) := by decide +kernel
theorem dX2_init_21 : decode cX2_init 21 = .ok (.putfield 22, 3) := by decide +kernel
theorem dX2_init_24 : decode cX2_init 24 = .ok (.return_, 1) := by decide +kernel
theorem dX2_place_0 : decode cX2_place 0 = .ok (.aload_n 0, 1) := by decide +kernel
theorem dX2_place_1 : decode cX2_place 1 = .ok (.getfield 9, 3) := by decide +kernel
theorem dX2_place_4 : decode cX2_place 4 = .ok (.ireturn, 1) := by decide +kernel
theorem dX2_readText_0 : decode cX2_readText 0 = .ok (.aload_n 0, 1) := by decide +kernel
theorem dX2_readText_1 : decode cX2_readText 1 = .ok (.invokevirtual 26, 3) := by decide +kernel
theorem dX2_readText_4 : decode cX2_readText 4 = .ok (.aload_n 0, 1) := by decide +kernel
theorem dX2_readText_5 : decode cX2_readText 5 = .ok (.iconst 0, 1) := by decide +kernel
theorem dX2_readText_6 : decode cX2_readText 6 = .ok (.invokevirtual 29, 3) := by decide +kernel
theorem dX2_readText_9 : decode cX2_readText 9 = .ok (.ifCond .eq 14, 3) := by decide +kernel
theorem dX2_readText_12 : decode cX2_readText 12 = .ok (.aload_n 0, 1) := by decide +kernel
theorem dX2_readText_13 : decode cX2_readText 13 = .ok (.invokevirtual 33, 3) := by decide +kernel
theorem dX2_readText_16 : decode cX2_readText 16 = .ok (.ifCond .eq 7, 3) := by decide +kernel
theorem dX2_readText_19 : decode cX2_readText 19 = .ok (.iconst 1, 1) := by decide +kernel
theorem dX2_readText_20 : decode cX2_readText 20 = .ok (.goto 4, 3) := by decide +kernel
theorem dX2_readText_23 : decode cX2_readText 23 = .ok (.iconst 0, 1) := by decide +kernel
theorem dX2_readText_24 : decode cX2_readText 24 = .ok (.ireturn, 1) := by decide +kernel
theorem dX2_readPart_0 : decode cX2_readPart 0 = .ok (.aload_n 0, 1) := by decide +kernel
theorem dX2_readPart_1 : decode cX2_readPart 1 = .ok (.invokevirtual 37, 3) := by decide +kernel
theorem dX2_readPart_4 : decode cX2_readPart 4 = .ok (.istore_n 2, 1) := by decide +kernel
theorem dX2_readPart_5 : decode cX2_readPart 5 = .ok (.iload_n 2, 1) := by decide +kernel
theorem dX2_readPart_6 : decode cX2_readPart 6 = .ok (.iconst (-1), 1) := by decide +kernel
theorem dX2_readPart_7 : decode cX2_readPart 7 = .ok (.if_icmp .eq 13, 3) := by decide +kernel
theorem dX2_readPart_10 : decode cX2_readPart 10 = .ok (.aload_n 0, 1) := by decide +kernel
theorem dX2_readPart_11 : decode cX2_readPart 11 = .ok (.getfield 22, 3) := by decide +kernel
theorem dX2_readPart_14 : decode cX2_readPart 14 = .ok (.invokevirtual 41, 3) := by decide +kernel
theorem dX2_readPart_17 : decode cX2_readPart 17 = .ok (.ifCond .ne 5, 3) := by decide +kernel
theorem dX2_readPart_20 : decode cX2_readPart 20 = .ok (.iconst 0, 1) := by decide +kernel
theorem dX2_readPart_21 : decode cX2_readPart 21 = .ok (.ireturn, 1) := by decide +kernel
theorem dX2_readPart_22 : decode cX2_readPart 22 = .ok (.aload_n 0, 1) := by decide +kernel
theorem dX2_readPart_23 : decode cX2_readPart 23 = .ok (.getfield 22, 3) := by decide +kernel
theorem dX2_readPart_26 : decode cX2_readPart 26 = .ok (.invokevirtual 46, 3) := by decide +kernel
theorem dX2_readPart_29 : decode cX2_readPart 29 = .ok (.istore_n 3, 1) := by decide +kernel
theorem dX2_readPart_30 : decode cX2_readPart 30 = .ok (.aload_n 0, 1) := by decide +kernel
theorem dX2_readPart_31 : decode cX2_readPart 31 = .ok (.getfield 22, 3) := by decide +kernel
theorem dX2_readPart_34 : decode cX2_readPart 34 = .ok (.iload_n 2, 1) := by decide +kernel
theorem dX2_readPart_35 : decode cX2_readPart 35 = .ok (.invokevirtual 49, 3) := by decide +kernel
theorem dX2_readPart_38 : decode cX2_readPart 38 = .ok (.aload_n 0, 1) := by decide +kernel
theorem dX2_readPart_39 : decode cX2_readPart 39 = .ok (.invokevirtual 26, 3) := by decide +kernel
theorem dX2_readPart_42 : decode cX2_readPart 42 = .ok (.aload_n 0, 1) := by decide +kernel
theorem dX2_readPart_43 : decode cX2_readPart 43 = .ok (.bipush 123, 2) := by decide +kernel
theorem dX2_readPart_45 : decode cX2_readPart 45 = .ok (.invokevirtual 53, 3) := by decide +kernel
theorem dX2_readPart_48 : decode cX2_readPart 48 = .ok (.ifCond .ne 5, 3) := by decide +kernel
theorem dX2_readPart_51 : decode cX2_readPart 51 = .ok (.iconst 1, 1) := by decide +kernel
theorem dX2_readPart_52 : decode cX2_readPart 52 = .ok (.ireturn, 1) := by decide +kernel
theorem dX2_readPart_53 : decode cX2_readPart 53 = .ok (.iload_n 1, 1) := by decide +kernel
theorem dX2_readPart_54 : decode cX2_readPart 54 = .ok (.bipush 6, 2) := by decide +kernel
theorem dX2_readPart_56 : decode cX2_readPart 56 = .ok (.if_icmp .lt 5, 3) := by decide +kernel
theorem dX2_readPart_59 : decode cX2_readPart 59 = .ok (.iconst 0, 1) := by decide +kernel
theorem dX2_readPart_60 : decode cX2_readPart 60 = .ok (.ireturn, 1) := by decide +kernel
theorem dX2_readPart_61 : decode cX2_readPart 61 = .ok (.aload_n 0, 1) := by decide +kernel
theorem dX2_readPart_62 : decode cX2_readPart 62 = .ok (.invokevirtual 26, 3) := by decide +kernel
theorem dX2_readPart_65 : decode cX2_readPart 65 = .ok (.aload_n 0, 1) := by decide +kernel
theorem dX2_readPart_66 : decode cX2_readPart 66 = .ok (.iload_n 3, 1) := by decide +kernel
theorem dX2_readPart_67 : decode cX2_readPart 67 = .ok (.iload_n 1, 1) := by decide +kernel
theorem dX2_readPart_68 : decode cX2_readPart 68 = .ok (.iconst 1, 1) := by decide +kernel
theorem dX2_readPart_69 : decode cX2_readPart 69 = .ok (.iadd, 1) := by decide +kernel
theorem dX2_readPart_70 : decode cX2_readPart 70 = .ok (.invokevirtual 57, 3) := by decide +kernel
theorem dX2_readPart_73 : decode cX2_readPart 73 = .ok (.ireturn, 1) := by decide +kernel
theorem dX2_readItems_0 : decode cX2_readItems 0 = .ok (.iconst 0, 1) := by decide +kernel
theorem dX2_readItems_1 : decode cX2_readItems 1 = .ok (.istore_n 3, 1) := by decide +kernel
theorem dX2_readItems_2 : decode cX2_readItems 2 = .ok (.iload_n 3, 1) := by decide +kernel
theorem dX2_readItems_3 : decode cX2_readItems 3 = .ok (.bipush 100, 2) := by decide +kernel
theorem dX2_readItems_5 : decode cX2_readItems 5 = .ok (.if_icmp .ge 55, 3) := by decide +kernel
theorem dX2_readItems_8 : decode cX2_readItems 8 = .ok (.aload_n 0, 1) := by decide +kernel
theorem dX2_readItems_9 : decode cX2_readItems 9 = .ok (.iload_n 1, 1) := by decide +kernel
theorem dX2_readItems_10 : decode cX2_readItems 10 = .ok (.iload_n 2, 1) := by decide +kernel
theorem dX2_readItems_11 : decode cX2_readItems 11 = .ok (.invokevirtual 61, 3) := by decide +kernel
theorem dX2_readItems_14 : decode cX2_readItems 14 = .ok (.ifCond .ne 5, 3) := by decide +kernel
theorem dX2_readItems_17 : decode cX2_readItems 17 = .ok (.iconst 0, 1) := by decide +kernel
theorem dX2_readItems_18 : decode cX2_readItems 18 = .ok (.ireturn, 1) := by decide +kernel
theorem dX2_readItems_19 : decode cX2_readItems 19 = .ok (.aload_n 0, 1) := by decide +kernel
theorem dX2_readItems_20 : decode cX2_readItems 20 = .ok (.bipush 125, 2) := by decide +kernel
theorem dX2_readItems_22 : decode cX2_readItems 22 = .ok (.invokevirtual 53, 3) := by decide +kernel
theorem dX2_readItems_25 : decode cX2_readItems 25 = .ok (.istore 4, 2) := by decide +kernel
theorem dX2_readItems_27 : decode cX2_readItems 27 = .ok (.iload 4, 2) := by decide +kernel
theorem dX2_readItems_29 : decode cX2_readItems 29 = .ok (.ifCond .ne 14, 3) := by decide +kernel
theorem dX2_readItems_32 : decode cX2_readItems 32 = .ok (.aload_n 0, 1) := by decide +kernel
theorem dX2_readItems_33 : decode cX2_readItems 33 = .ok (.bipush 44, 2) := by decide +kernel
theorem dX2_readItems_35 : decode cX2_readItems 35 = .ok (.invokevirtual 53, 3) := by decide +kernel
theorem dX2_readItems_38 : decode cX2_readItems 38 = .ok (.ifCond .ne 5, 3) := by decide +kernel
theorem dX2_readItems_41 : decode cX2_readItems 41 = .ok (.iconst 0, 1) := by decide +kernel
theorem dX2_readItems_42 : decode cX2_readItems 42 = .ok (.ireturn, 1) := by decide +kernel
theorem dX2_readItems_43 : decode cX2_readItems 43 = .ok (.aload_n 0, 1) := by decide +kernel
theorem dX2_readItems_44 : decode cX2_readItems 44 = .ok (.invokevirtual 26, 3) := by decide +kernel
theorem dX2_readItems_47 : decode cX2_readItems 47 = .ok (.iload 4, 2) := by decide +kernel
theorem dX2_readItems_49 : decode cX2_readItems 49 = .ok (.ifCond .eq 5, 3) := by decide +kernel
theorem dX2_readItems_52 : decode cX2_readItems 52 = .ok (.iconst 1, 1) := by decide +kernel
theorem dX2_readItems_53 : decode cX2_readItems 53 = .ok (.ireturn, 1) := by decide +kernel
theorem dX2_readItems_54 : decode cX2_readItems 54 = .ok (.iinc 3 1, 3) := by decide +kernel
theorem dX2_readItems_57 : decode cX2_readItems 57 = .ok (.goto (-55), 3) := by decide +kernel
theorem dX2_readItems_60 : decode cX2_readItems 60 = .ok (.iconst 0, 1) := by decide +kernel
theorem dX2_readItems_61 : decode cX2_readItems 61 = .ok (.ireturn, 1) := by decide +kernel
theorem dX2_readItem_0 : decode cX2_readItem 0 = .ok (.aload_n 0, 1) := by decide +kernel
theorem dX2_readItem_1 : decode cX2_readItem 1 = .ok (.ldc 64, 2) := by decide +kernel
theorem dX2_readItem_3 : decode cX2_readItem 3 = .ok (.invokevirtual 66, 3) := by decide +kernel
theorem dX2_readItem_6 : decode cX2_readItem 6 = .ok (.ifCond .eq 20, 3) := by decide +kernel
theorem dX2_readItem_9 : decode cX2_readItem 9 = .ok (.aload_n 0, 1) := by decide +kernel
theorem dX2_readItem_10 : decode cX2_readItem 10 = .ok (.getfield 22, 3) := by decide +kernel
theorem dX2_readItem_13 : decode cX2_readItem 13 = .ok (.iload_n 1, 1) := by decide +kernel
theorem dX2_readItem_14 : decode cX2_readItem 14 = .ok (.iconst 0, 1) := by decide +kernel
theorem dX2_readItem_15 : decode cX2_readItem 15 = .ok (.iconst (-1), 1) := by decide +kernel
theorem dX2_readItem_16 : decode cX2_readItem 16 = .ok (.iconst (-1), 1) := by decide +kernel
theorem dX2_readItem_17 : decode cX2_readItem 17 = .ok (.invokevirtual 70, 3) := by decide +kernel
theorem dX2_readItem_20 : decode cX2_readItem 20 = .ok (.aload_n 0, 1) := by decide +kernel
theorem dX2_readItem_21 : decode cX2_readItem 21 = .ok (.invokevirtual 26, 3) := by decide +kernel
theorem dX2_readItem_24 : decode cX2_readItem 24 = .ok (.iconst 1, 1) := by decide +kernel
theorem dX2_readItem_25 : decode cX2_readItem 25 = .ok (.ireturn, 1) := by decide +kernel
theorem dX2_readItem_26 : decode cX2_readItem 26 = .ok (.aload_n 0, 1) := by decide +kernel
theorem dX2_readItem_27 : decode cX2_readItem 27 = .ok (.ldc 74, 2) := by decide +kernel
theorem dX2_readItem_29 : decode cX2_readItem 29 = .ok (.invokevirtual 66, 3) := by decide +kernel
theorem dX2_readItem_32 : decode cX2_readItem 32 = .ok (.istore_n 3, 1) := by decide +kernel
theorem dX2_readItem_33 : decode cX2_readItem 33 = .ok (.iload_n 3, 1) := by decide +kernel
theorem dX2_readItem_34 : decode cX2_readItem 34 = .ok (.ifCond .ne 14, 3) := by decide +kernel
theorem dX2_readItem_37 : decode cX2_readItem 37 = .ok (.aload_n 0, 1) := by decide +kernel
theorem dX2_readItem_38 : decode cX2_readItem 38 = .ok (.ldc 76, 2) := by decide +kernel
theorem dX2_readItem_40 : decode cX2_readItem 40 = .ok (.invokevirtual 66, 3) := by decide +kernel
theorem dX2_readItem_43 : decode cX2_readItem 43 = .ok (.ifCond .ne 5, 3) := by decide +kernel
theorem dX2_readItem_46 : decode cX2_readItem 46 = .ok (.iconst 0, 1) := by decide +kernel
theorem dX2_readItem_47 : decode cX2_readItem 47 = .ok (.ireturn, 1) := by decide +kernel
theorem dX2_readItem_48 : decode cX2_readItem 48 = .ok (.aload_n 0, 1) := by decide +kernel
theorem dX2_readItem_49 : decode cX2_readItem 49 = .ok (.invokevirtual 26, 3) := by decide +kernel
theorem dX2_readItem_52 : decode cX2_readItem 52 = .ok (.aload_n 0, 1) := by decide +kernel
theorem dX2_readItem_53 : decode cX2_readItem 53 = .ok (.invokevirtual 78, 3) := by decide +kernel
theorem dX2_readItem_56 : decode cX2_readItem 56 = .ok (.istore 4, 2) := by decide +kernel
theorem dX2_readItem_58 : decode cX2_readItem 58 = .ok (.iload 4, 2) := by decide +kernel
theorem dX2_readItem_60 : decode cX2_readItem 60 = .ok (.iconst (-1), 1) := by decide +kernel
theorem dX2_readItem_61 : decode cX2_readItem 61 = .ok (.if_icmp .ne 5, 3) := by decide +kernel
theorem dX2_readItem_64 : decode cX2_readItem 64 = .ok (.iconst 0, 1) := by decide +kernel
theorem dX2_readItem_65 : decode cX2_readItem 65 = .ok (.ireturn, 1) := by decide +kernel
theorem dX2_readItem_66 : decode cX2_readItem 66 = .ok (.aload_n 0, 1) := by decide +kernel
theorem dX2_readItem_67 : decode cX2_readItem 67 = .ok (.invokevirtual 26, 3) := by decide +kernel
theorem dX2_readItem_70 : decode cX2_readItem 70 = .ok (.aload_n 0, 1) := by decide +kernel
theorem dX2_readItem_71 : decode cX2_readItem 71 = .ok (.getfield 22, 3) := by decide +kernel
theorem dX2_readItem_74 : decode cX2_readItem 74 = .ok (.iload_n 1, 1) := by decide +kernel
theorem dX2_readItem_75 : decode cX2_readItem 75 = .ok (.iload_n 3, 1) := by decide +kernel
theorem dX2_readItem_76 : decode cX2_readItem 76 = .ok (.ifCond .eq 7, 3) := by decide +kernel
theorem dX2_readItem_79 : decode cX2_readItem 79 = .ok (.iconst 1, 1) := by decide +kernel
theorem dX2_readItem_80 : decode cX2_readItem 80 = .ok (.goto 4, 3) := by decide +kernel
theorem dX2_readItem_83 : decode cX2_readItem 83 = .ok (.iconst 2, 1) := by decide +kernel
theorem dX2_readItem_84 : decode cX2_readItem 84 = .ok (.iload 4, 2) := by decide +kernel
theorem dX2_readItem_86 : decode cX2_readItem 86 = .ok (.aload_n 0, 1) := by decide +kernel
theorem dX2_readItem_87 : decode cX2_readItem 87 = .ok (.getfield 22, 3) := by decide +kernel
theorem dX2_readItem_90 : decode cX2_readItem 90 = .ok (.invokevirtual 46, 3) := by decide +kernel
theorem dX2_readItem_93 : decode cX2_readItem 93 = .ok (.invokevirtual 70, 3) := by decide +kernel
theorem dX2_readItem_96 : decode cX2_readItem 96 = .ok (.aload_n 0, 1) := by decide +kernel
theorem dX2_readItem_97 : decode cX2_readItem 97 = .ok (.iload_n 2, 1) := by decide +kernel
theorem dX2_readItem_98 : decode cX2_readItem 98 = .ok (.invokevirtual 29, 3) := by decide +kernel
theorem dX2_readItem_101 : decode cX2_readItem 101 = .ok (.ireturn, 1) := by decide +kernel
theorem dX2_advance_0 : decode cX2_advance 0 = .ok (.aload_n 0, 1) := by decide +kernel
theorem dX2_advance_1 : decode cX2_advance 1 = .ok (.aload_n 0, 1) := by decide +kernel
theorem dX2_advance_2 : decode cX2_advance 2 = .ok (.getfield 15, 3) := by decide +kernel
theorem dX2_advance_5 : decode cX2_advance 5 = .ok (.putfield 9, 3) := by decide +kernel
theorem dX2_advance_8 : decode cX2_advance 8 = .ok (.aload_n 0, 1) := by decide +kernel
theorem dX2_advance_9 : decode cX2_advance 9 = .ok (.getfield 9, 3) := by decide +kernel
theorem dX2_advance_12 : decode cX2_advance 12 = .ok (.sipush 200, 3) := by decide +kernel
theorem dX2_advance_15 : decode cX2_advance 15 = .ok (.if_icmp .ge 32, 3) := by decide +kernel
theorem dX2_advance_18 : decode cX2_advance 18 = .ok (.aload_n 0, 1) := by decide +kernel
theorem dX2_advance_19 : decode cX2_advance 19 = .ok (.getfield 18, 3) := by decide +kernel
theorem dX2_advance_22 : decode cX2_advance 22 = .ok (.aload_n 0, 1) := by decide +kernel
theorem dX2_advance_23 : decode cX2_advance 23 = .ok (.getfield 9, 3) := by decide +kernel
theorem dX2_advance_26 : decode cX2_advance 26 = .ok (.invokevirtual 81, 3) := by decide +kernel
theorem dX2_advance_29 : decode cX2_advance 29 = .ok (.bipush 32, 2) := by decide +kernel
theorem dX2_advance_31 : decode cX2_advance 31 = .ok (.if_icmp .ne 16, 3) := by decide +kernel
theorem dX2_advance_34 : decode cX2_advance 34 = .ok (.aload_n 0, 1) := by decide +kernel
theorem dX2_advance_35 : decode cX2_advance 35 = .ok (.dup, 1) := by decide +kernel
theorem dX2_advance_36 : decode cX2_advance 36 = .ok (.getfield 9, 3) := by decide +kernel
theorem dX2_advance_39 : decode cX2_advance 39 = .ok (.iconst 1, 1) := by decide +kernel
theorem dX2_advance_40 : decode cX2_advance 40 = .ok (.iadd, 1) := by decide +kernel
theorem dX2_advance_41 : decode cX2_advance 41 = .ok (.putfield 9, 3) := by decide +kernel
theorem dX2_advance_44 : decode cX2_advance 44 = .ok (.goto (-36), 3) := by decide +kernel
theorem dX2_advance_47 : decode cX2_advance 47 = .ok (.aload_n 0, 1) := by decide +kernel
theorem dX2_advance_48 : decode cX2_advance 48 = .ok (.getfield 18, 3) := by decide +kernel
theorem dX2_advance_51 : decode cX2_advance 51 = .ok (.aload_n 0, 1) := by decide +kernel
theorem dX2_advance_52 : decode cX2_advance 52 = .ok (.getfield 9, 3) := by decide +kernel
theorem dX2_advance_55 : decode cX2_advance 55 = .ok (.invokevirtual 81, 3) := by decide +kernel
theorem dX2_advance_58 : decode cX2_advance 58 = .ok (.istore_n 1, 1) := by decide +kernel
theorem dX2_advance_59 : decode cX2_advance 59 = .ok (.aload_n 0, 1) := by decide +kernel
theorem dX2_advance_60 : decode cX2_advance 60 = .ok (.iload_n 1, 1) := by decide +kernel
theorem dX2_advance_61 : decode cX2_advance 61 = .ok (.iconst (-1), 1) := by decide +kernel
theorem dX2_advance_62 : decode cX2_advance 62 = .ok (.if_icmp .ne 10, 3) := by decide +kernel
theorem dX2_advance_65 : decode cX2_advance 65 = .ok (.aload_n 0, 1) := by decide +kernel
theorem dX2_advance_66 : decode cX2_advance 66 = .ok (.getfield 9, 3) := by decide +kernel
theorem dX2_advance_69 : decode cX2_advance 69 = .ok (.goto 9, 3) := by decide +kernel
theorem dX2_advance_72 : decode cX2_advance 72 = .ok (.aload_n 0, 1) := by decide +kernel
theorem dX2_advance_73 : decode cX2_advance 73 = .ok (.getfield 9, 3) := by decide +kernel
theorem dX2_advance_76 : decode cX2_advance 76 = .ok (.iconst 1, 1) := by decide +kernel
theorem dX2_advance_77 : decode cX2_advance 77 = .ok (.iadd, 1) := by decide +kernel
theorem dX2_advance_78 : decode cX2_advance 78 = .ok (.putfield 15, 3) := by decide +kernel
theorem dX2_advance_81 : decode cX2_advance 81 = .ok (.iload_n 1, 1) := by decide +kernel
theorem dX2_advance_82 : decode cX2_advance 82 = .ok (.invokestatic 87, 3) := by decide +kernel
theorem dX2_advance_85 : decode cX2_advance 85 = .ok (.istore_n 2, 1) := by decide +kernel
theorem dX2_advance_86 : decode cX2_advance 86 = .ok (.iload_n 1, 1) := by decide +kernel
theorem dX2_advance_87 : decode cX2_advance 87 = .ok (.invokestatic 90, 3) := by decide +kernel
theorem dX2_advance_90 : decode cX2_advance 90 = .ok (.istore_n 3, 1) := by decide +kernel
theorem dX2_advance_91 : decode cX2_advance 91 = .ok (.aload_n 0, 1) := by decide +kernel
theorem dX2_advance_92 : decode cX2_advance 92 = .ok (.getfield 15, 3) := by decide +kernel
theorem dX2_advance_95 : decode cX2_advance 95 = .ok (.sipush 200, 3) := by decide +kernel
theorem dX2_advance_98 : decode cX2_advance 98 = .ok (.if_icmp .ge 58, 3) := by decide +kernel
theorem dX2_advance_101 : decode cX2_advance 101 = .ok (.iload_n 2, 1) := by decide +kernel
theorem dX2_advance_102 : decode cX2_advance 102 = .ok (.ifCond .eq 20, 3) := by decide +kernel
theorem dX2_advance_105 : decode cX2_advance 105 = .ok (.aload_n 0, 1) := by decide +kernel
theorem dX2_advance_106 : decode cX2_advance 106 = .ok (.getfield 18, 3) := by decide +kernel
theorem dX2_advance_109 : decode cX2_advance 109 = .ok (.aload_n 0, 1) := by decide +kernel
theorem dX2_advance_110 : decode cX2_advance 110 = .ok (.getfield 15, 3) := by decide +kernel
theorem dX2_advance_113 : decode cX2_advance 113 = .ok (.invokevirtual 81, 3) := by decide +kernel
theorem dX2_advance_116 : decode cX2_advance 116 = .ok (.invokestatic 87, 3) := by decide +kernel
theorem dX2_advance_119 : decode cX2_advance 119 = .ok (.ifCond .ne 24, 3) := by decide +kernel
theorem dX2_advance_122 : decode cX2_advance 122 = .ok (.iload_n 3, 1) := by decide +kernel
theorem dX2_advance_123 : decode cX2_advance 123 = .ok (.ifCond .eq 33, 3) := by decide +kernel
theorem dX2_advance_126 : decode cX2_advance 126 = .ok (.aload_n 0, 1) := by decide +kernel
theorem dX2_advance_127 : decode cX2_advance 127 = .ok (.getfield 18, 3) := by decide +kernel
theorem dX2_advance_130 : decode cX2_advance 130 = .ok (.aload_n 0, 1) := by decide +kernel
theorem dX2_advance_131 : decode cX2_advance 131 = .ok (.getfield 15, 3) := by decide +kernel
theorem dX2_advance_134 : decode cX2_advance 134 = .ok (.invokevirtual 81, 3) := by decide +kernel
theorem dX2_advance_137 : decode cX2_advance 137 = .ok (.invokestatic 90, 3) := by decide +kernel
theorem dX2_advance_140 : decode cX2_advance 140 = .ok (.ifCond .eq 16, 3) := by decide +kernel
theorem dX2_advance_143 : decode cX2_advance 143 = .ok (.aload_n 0, 1) := by decide +kernel
theorem dX2_advance_144 : decode cX2_advance 144 = .ok (.dup, 1) := by decide +kernel
theorem dX2_advance_145 : decode cX2_advance 145 = .ok (.getfield 15, 3) := by decide +kernel
theorem dX2_advance_148 : decode cX2_advance 148 = .ok (.iconst 1, 1) := by decide +kernel
theorem dX2_advance_149 : decode cX2_advance 149 = .ok (.iadd, 1) := by decide +kernel
theorem dX2_advance_150 : decode cX2_advance 150 = .ok (.putfield 15, 3) := by decide +kernel
theorem dX2_advance_153 : decode cX2_advance 153 = .ok (.goto (-62), 3) := by decide +kernel
theorem dX2_advance_156 : decode cX2_advance 156 = .ok (.return_, 1) := by decide +kernel
theorem dX2_isAtEnd_0 : decode cX2_isAtEnd 0 = .ok (.aload_n 0, 1) := by decide +kernel
theorem dX2_isAtEnd_1 : decode cX2_isAtEnd 1 = .ok (.getfield 9, 3) := by decide +kernel
theorem dX2_isAtEnd_4 : decode cX2_isAtEnd 4 = .ok (.aload_n 0, 1) := by decide +kernel
theorem dX2_isAtEnd_5 : decode cX2_isAtEnd 5 = .ok (.getfield 18, 3) := by decide +kernel
theorem dX2_isAtEnd_8 : decode cX2_isAtEnd 8 = .ok (.invokevirtual 93, 3) := by decide +kernel
theorem dX2_isAtEnd_11 : decode cX2_isAtEnd 11 = .ok (.if_icmp .lt 7, 3) := by decide +kernel
theorem dX2_isAtEnd_14 : decode cX2_isAtEnd 14 = .ok (.iconst 1, 1) := by decide +kernel
theorem dX2_isAtEnd_15 : decode cX2_isAtEnd 15 = .ok (.goto 4, 3) := by decide +kernel
theorem dX2_isAtEnd_18 : decode cX2_isAtEnd 18 = .ok (.iconst 0, 1) := by decide +kernel
theorem dX2_isAtEnd_19 : decode cX2_isAtEnd 19 = .ok (.ireturn, 1) := by decide +kernel
theorem dX2_isLetter_0 : decode cX2_isLetter 0 = .ok (.iload_n 0, 1) := by decide +kernel
theorem dX2_isLetter_1 : decode cX2_isLetter 1 = .ok (.bipush 97, 2) := by decide +kernel
theorem dX2_isLetter_3 : decode cX2_isLetter 3 = .ok (.if_icmp .lt 13, 3) := by decide +kernel
theorem dX2_isLetter_6 : decode cX2_isLetter 6 = .ok (.iload_n 0, 1) := by decide +kernel
theorem dX2_isLetter_7 : decode cX2_isLetter 7 = .ok (.bipush 122, 2) := by decide +kernel
theorem dX2_isLetter_9 : decode cX2_isLetter 9 = .ok (.if_icmp .gt 7, 3) := by decide +kernel
theorem dX2_isLetter_12 : decode cX2_isLetter 12 = .ok (.iconst 1, 1) := by decide +kernel
theorem dX2_isLetter_13 : decode cX2_isLetter 13 = .ok (.goto 4, 3) := by decide +kernel
theorem dX2_isLetter_16 : decode cX2_isLetter 16 = .ok (.iconst 0, 1) := by decide +kernel
theorem dX2_isLetter_17 : decode cX2_isLetter 17 = .ok (.ireturn, 1) := by decide +kernel
theorem dX2_isDigit_0 : decode cX2_isDigit 0 = .ok (.iload_n 0, 1) := by decide +kernel
theorem dX2_isDigit_1 : decode cX2_isDigit 1 = .ok (.bipush 48, 2) := by decide +kernel
theorem dX2_isDigit_3 : decode cX2_isDigit 3 = .ok (.if_icmp .lt 13, 3) := by decide +kernel
theorem dX2_isDigit_6 : decode cX2_isDigit 6 = .ok (.iload_n 0, 1) := by decide +kernel
theorem dX2_isDigit_7 : decode cX2_isDigit 7 = .ok (.bipush 57, 2) := by decide +kernel
theorem dX2_isDigit_9 : decode cX2_isDigit 9 = .ok (.if_icmp .gt 7, 3) := by decide +kernel
theorem dX2_isDigit_12 : decode cX2_isDigit 12 = .ok (.iconst 1, 1) := by decide +kernel
theorem dX2_isDigit_13 : decode cX2_isDigit 13 = .ok (.goto 4, 3) := by decide +kernel
theorem dX2_isDigit_16 : decode cX2_isDigit 16 = .ok (.iconst 0, 1) := by decide +kernel
theorem dX2_isDigit_17 : decode cX2_isDigit 17 = .ok (.ireturn, 1) := by decide +kernel
theorem dX2_isSign_0 : decode cX2_isSign 0 = .ok (.aload_n 0, 1) := by decide +kernel
theorem dX2_isSign_1 : decode cX2_isSign 1 = .ok (.getfield 18, 3) := by decide +kernel
theorem dX2_isSign_4 : decode cX2_isSign 4 = .ok (.aload_n 0, 1) := by decide +kernel
theorem dX2_isSign_5 : decode cX2_isSign 5 = .ok (.getfield 9, 3) := by decide +kernel
theorem dX2_isSign_8 : decode cX2_isSign 8 = .ok (.invokevirtual 81, 3) := by decide +kernel
theorem dX2_isSign_11 : decode cX2_isSign 11 = .ok (.iload_n 1, 1) := by decide +kernel
theorem dX2_isSign_12 : decode cX2_isSign 12 = .ok (.if_icmp .ne 7, 3) := by decide +kernel
theorem dX2_isSign_15 : decode cX2_isSign 15 = .ok (.iconst 1, 1) := by decide +kernel
theorem dX2_isSign_16 : decode cX2_isSign 16 = .ok (.goto 4, 3) := by decide +kernel
theorem dX2_isSign_19 : decode cX2_isSign 19 = .ok (.iconst 0, 1) := by decide +kernel
theorem dX2_isSign_20 : decode cX2_isSign 20 = .ok (.ireturn, 1) := by decide +kernel
theorem dX2_isWord_0 : decode cX2_isWord 0 = .ok (.aload_n 0, 1) := by decide +kernel
theorem dX2_isWord_1 : decode cX2_isWord 1 = .ok (.getfield 15, 3) := by decide +kernel
theorem dX2_isWord_4 : decode cX2_isWord 4 = .ok (.aload_n 0, 1) := by decide +kernel
theorem dX2_isWord_5 : decode cX2_isWord 5 = .ok (.getfield 9, 3) := by decide +kernel
theorem dX2_isWord_8 : decode cX2_isWord 8 = .ok (.isub, 1) := by decide +kernel
theorem dX2_isWord_9 : decode cX2_isWord 9 = .ok (.aload_n 1, 1) := by decide +kernel
theorem dX2_isWord_10 : decode cX2_isWord 10 = .ok (.invokevirtual 96, 3) := by decide +kernel
theorem dX2_isWord_13 : decode cX2_isWord 13 = .ok (.if_icmp .eq 5, 3) := by decide +kernel
theorem dX2_isWord_16 : decode cX2_isWord 16 = .ok (.iconst 0, 1) := by decide +kernel
theorem dX2_isWord_17 : decode cX2_isWord 17 = .ok (.ireturn, 1) := by decide +kernel
theorem dX2_isWord_18 : decode cX2_isWord 18 = .ok (.iconst 0, 1) := by decide +kernel
theorem dX2_isWord_19 : decode cX2_isWord 19 = .ok (.istore_n 2, 1) := by decide +kernel
theorem dX2_isWord_20 : decode cX2_isWord 20 = .ok (.iload_n 2, 1) := by decide +kernel
theorem dX2_isWord_21 : decode cX2_isWord 21 = .ok (.aload_n 1, 1) := by decide +kernel
theorem dX2_isWord_22 : decode cX2_isWord 22 = .ok (.invokevirtual 96, 3) := by decide +kernel
theorem dX2_isWord_25 : decode cX2_isWord 25 = .ok (.if_icmp .ge 32, 3) := by decide +kernel
theorem dX2_isWord_28 : decode cX2_isWord 28 = .ok (.aload_n 0, 1) := by decide +kernel
theorem dX2_isWord_29 : decode cX2_isWord 29 = .ok (.getfield 18, 3) := by decide +kernel
theorem dX2_isWord_32 : decode cX2_isWord 32 = .ok (.aload_n 0, 1) := by decide +kernel
theorem dX2_isWord_33 : decode cX2_isWord 33 = .ok (.getfield 9, 3) := by decide +kernel
theorem dX2_isWord_36 : decode cX2_isWord 36 = .ok (.iload_n 2, 1) := by decide +kernel
theorem dX2_isWord_37 : decode cX2_isWord 37 = .ok (.iadd, 1) := by decide +kernel
theorem dX2_isWord_38 : decode cX2_isWord 38 = .ok (.invokevirtual 81, 3) := by decide +kernel
theorem dX2_isWord_41 : decode cX2_isWord 41 = .ok (.aload_n 1, 1) := by decide +kernel
theorem dX2_isWord_42 : decode cX2_isWord 42 = .ok (.iload_n 2, 1) := by decide +kernel
theorem dX2_isWord_43 : decode cX2_isWord 43 = .ok (.invokevirtual 99, 3) := by decide +kernel
theorem dX2_isWord_46 : decode cX2_isWord 46 = .ok (.if_icmp .eq 5, 3) := by decide +kernel
theorem dX2_isWord_49 : decode cX2_isWord 49 = .ok (.iconst 0, 1) := by decide +kernel
theorem dX2_isWord_50 : decode cX2_isWord 50 = .ok (.ireturn, 1) := by decide +kernel
theorem dX2_isWord_51 : decode cX2_isWord 51 = .ok (.iinc 2 1, 3) := by decide +kernel
theorem dX2_isWord_54 : decode cX2_isWord 54 = .ok (.goto (-34), 3) := by decide +kernel
theorem dX2_isWord_57 : decode cX2_isWord 57 = .ok (.iconst 1, 1) := by decide +kernel
theorem dX2_isWord_58 : decode cX2_isWord 58 = .ok (.ireturn, 1) := by decide +kernel
theorem dX2_tableHere_0 : decode cX2_tableHere 0 = .ok (.aload_n 0, 1) := by decide +kernel
theorem dX2_tableHere_1 : decode cX2_tableHere 1 = .ok (.getfield 18, 3) := by decide +kernel
theorem dX2_tableHere_4 : decode cX2_tableHere 4 = .ok (.aload_n 0, 1) := by decide +kernel
theorem dX2_tableHere_5 : decode cX2_tableHere 5 = .ok (.getfield 9, 3) := by decide +kernel
theorem dX2_tableHere_8 : decode cX2_tableHere 8 = .ok (.invokevirtual 81, 3) := by decide +kernel
theorem dX2_tableHere_11 : decode cX2_tableHere 11 = .ok (.bipush 97, 2) := by decide +kernel
theorem dX2_tableHere_13 : decode cX2_tableHere 13 = .ok (.isub, 1) := by decide +kernel
theorem dX2_tableHere_14 : decode cX2_tableHere 14 = .ok (.istore_n 1, 1) := by decide +kernel
theorem dX2_tableHere_15 : decode cX2_tableHere 15 = .ok (.aload_n 0, 1) := by decide +kernel
theorem dX2_tableHere_16 : decode cX2_tableHere 16 = .ok (.getfield 15, 3) := by decide +kernel
theorem dX2_tableHere_19 : decode cX2_tableHere 19 = .ok (.aload_n 0, 1) := by decide +kernel
theorem dX2_tableHere_20 : decode cX2_tableHere 20 = .ok (.getfield 9, 3) := by decide +kernel
theorem dX2_tableHere_23 : decode cX2_tableHere 23 = .ok (.isub, 1) := by decide +kernel
theorem dX2_tableHere_24 : decode cX2_tableHere 24 = .ok (.iconst 1, 1) := by decide +kernel
theorem dX2_tableHere_25 : decode cX2_tableHere 25 = .ok (.if_icmp .ne 16, 3) := by decide +kernel
theorem dX2_tableHere_28 : decode cX2_tableHere 28 = .ok (.iload_n 1, 1) := by decide +kernel
theorem dX2_tableHere_29 : decode cX2_tableHere 29 = .ok (.ifCond .lt 12, 3) := by decide +kernel
theorem dX2_tableHere_32 : decode cX2_tableHere 32 = .ok (.iload_n 1, 1) := by decide +kernel
theorem dX2_tableHere_33 : decode cX2_tableHere 33 = .ok (.iconst 4, 1) := by decide +kernel
theorem dX2_tableHere_34 : decode cX2_tableHere 34 = .ok (.if_icmp .ge 7, 3) := by decide +kernel
theorem dX2_tableHere_37 : decode cX2_tableHere 37 = .ok (.iload_n 1, 1) := by decide +kernel
theorem dX2_tableHere_38 : decode cX2_tableHere 38 = .ok (.goto 4, 3) := by decide +kernel
theorem dX2_tableHere_41 : decode cX2_tableHere 41 = .ok (.iconst (-1), 1) := by decide +kernel
theorem dX2_tableHere_42 : decode cX2_tableHere 42 = .ok (.ireturn, 1) := by decide +kernel
theorem dX2_referenceHere_0 : decode cX2_referenceHere 0 = .ok (.aload_n 0, 1) := by decide +kernel
theorem dX2_referenceHere_1 : decode cX2_referenceHere 1 = .ok (.getfield 9, 3) := by decide +kernel
theorem dX2_referenceHere_4 : decode cX2_referenceHere 4 = .ok (.istore_n 1, 1) := by decide +kernel
theorem dX2_referenceHere_5 : decode cX2_referenceHere 5 = .ok (.iload_n 1, 1) := by decide +kernel
theorem dX2_referenceHere_6 : decode cX2_referenceHere 6 = .ok (.aload_n 0, 1) := by decide +kernel
theorem dX2_referenceHere_7 : decode cX2_referenceHere 7 = .ok (.getfield 15, 3) := by decide +kernel
theorem dX2_referenceHere_10 : decode cX2_referenceHere 10 = .ok (.iconst 1, 1) := by decide +kernel
theorem dX2_referenceHere_11 : decode cX2_referenceHere 11 = .ok (.isub, 1) := by decide +kernel
theorem dX2_referenceHere_12 : decode cX2_referenceHere 12 = .ok (.if_icmp .ge 31, 3) := by decide +kernel
theorem dX2_referenceHere_15 : decode cX2_referenceHere 15 = .ok (.iload_n 1, 1) := by decide +kernel
theorem dX2_referenceHere_16 : decode cX2_referenceHere 16 = .ok (.sipush 200, 3) := by decide +kernel
theorem dX2_referenceHere_19 : decode cX2_referenceHere 19 = .ok (.if_icmp .ge 24, 3) := by decide +kernel
theorem dX2_referenceHere_22 : decode cX2_referenceHere 22 = .ok (.aload_n 0, 1) := by decide +kernel
theorem dX2_referenceHere_23 : decode cX2_referenceHere 23 = .ok (.getfield 18, 3) := by decide +kernel
theorem dX2_referenceHere_26 : decode cX2_referenceHere 26 = .ok (.iload_n 1, 1) := by decide +kernel
theorem dX2_referenceHere_27 : decode cX2_referenceHere 27 = .ok (.invokevirtual 81, 3) := by decide +kernel
theorem dX2_referenceHere_30 : decode cX2_referenceHere 30 = .ok (.bipush 48, 2) := by decide +kernel
theorem dX2_referenceHere_32 : decode cX2_referenceHere 32 = .ok (.if_icmp .eq 5, 3) := by decide +kernel
theorem dX2_referenceHere_35 : decode cX2_referenceHere 35 = .ok (.iconst (-1), 1) := by decide +kernel
theorem dX2_referenceHere_36 : decode cX2_referenceHere 36 = .ok (.ireturn, 1) := by decide +kernel
theorem dX2_referenceHere_37 : decode cX2_referenceHere 37 = .ok (.iinc 1 1, 3) := by decide +kernel
theorem dX2_referenceHere_40 : decode cX2_referenceHere 40 = .ok (.goto (-35), 3) := by decide +kernel
theorem dX2_referenceHere_43 : decode cX2_referenceHere 43 = .ok (.aload_n 0, 1) := by decide +kernel
theorem dX2_referenceHere_44 : decode cX2_referenceHere 44 = .ok (.getfield 18, 3) := by decide +kernel
theorem dX2_referenceHere_47 : decode cX2_referenceHere 47 = .ok (.aload_n 0, 1) := by decide +kernel
theorem dX2_referenceHere_48 : decode cX2_referenceHere 48 = .ok (.getfield 15, 3) := by decide +kernel
theorem dX2_referenceHere_51 : decode cX2_referenceHere 51 = .ok (.iconst 1, 1) := by decide +kernel
theorem dX2_referenceHere_52 : decode cX2_referenceHere 52 = .ok (.isub, 1) := by decide +kernel
theorem dX2_referenceHere_53 : decode cX2_referenceHere 53 = .ok (.invokevirtual 81, 3) := by decide +kernel
theorem dX2_referenceHere_56 : decode cX2_referenceHere 56 = .ok (.bipush 48, 2) := by decide +kernel
theorem dX2_referenceHere_58 : decode cX2_referenceHere 58 = .ok (.isub, 1) := by decide +kernel
theorem dX2_referenceHere_59 : decode cX2_referenceHere 59 = .ok (.istore_n 1, 1) := by decide +kernel
theorem dX2_referenceHere_60 : decode cX2_referenceHere 60 = .ok (.aload_n 0, 1) := by decide +kernel
theorem dX2_referenceHere_61 : decode cX2_referenceHere 61 = .ok (.getfield 18, 3) := by decide +kernel
theorem dX2_referenceHere_64 : decode cX2_referenceHere 64 = .ok (.aload_n 0, 1) := by decide +kernel
theorem dX2_referenceHere_65 : decode cX2_referenceHere 65 = .ok (.getfield 9, 3) := by decide +kernel
theorem dX2_referenceHere_68 : decode cX2_referenceHere 68 = .ok (.invokevirtual 81, 3) := by decide +kernel
theorem dX2_referenceHere_71 : decode cX2_referenceHere 71 = .ok (.invokestatic 90, 3) := by decide +kernel
theorem dX2_referenceHere_74 : decode cX2_referenceHere 74 = .ok (.ifCond .eq 16, 3) := by decide +kernel
theorem dX2_referenceHere_77 : decode cX2_referenceHere 77 = .ok (.iload_n 1, 1) := by decide +kernel
theorem dX2_referenceHere_78 : decode cX2_referenceHere 78 = .ok (.ifCond .eq 8, 3) := by decide +kernel
theorem dX2_referenceHere_81 : decode cX2_referenceHere 81 = .ok (.iload_n 1, 1) := by decide +kernel
theorem dX2_referenceHere_82 : decode cX2_referenceHere 82 = .ok (.iconst 1, 1) := by decide +kernel
theorem dX2_referenceHere_83 : decode cX2_referenceHere 83 = .ok (.if_icmp .ne 7, 3) := by decide +kernel
theorem dX2_referenceHere_86 : decode cX2_referenceHere 86 = .ok (.iload_n 1, 1) := by decide +kernel
theorem dX2_referenceHere_87 : decode cX2_referenceHere 87 = .ok (.goto 4, 3) := by decide +kernel
theorem dX2_referenceHere_90 : decode cX2_referenceHere 90 = .ok (.iconst (-1), 1) := by decide +kernel
theorem dX2_referenceHere_91 : decode cX2_referenceHere 91 = .ok (.ireturn, 1) := by decide +kernel
theorem dX8_init_0 : decode cX8_init 0 = .ok (.aload_n 0, 1) := by decide +kernel
theorem dX8_init_1 : decode cX8_init 1 = .ok (.invokespecial 3, 3) := by decide +kernel
theorem dX8_init_4 : decode cX8_init 4 = .ok (.aload_n 0, 1) := by decide +kernel
theorem dX8_init_5 : decode cX8_init 5 = .ok (.new 9, 3) := by decide +kernel
theorem dX8_init_8 : decode cX8_init 8 = .ok (.dup, 1) := by decide +kernel
theorem dX8_init_9 : decode cX8_init 9 = .ok (.invokespecial 11, 3) := by decide +kernel
theorem dX8_init_12 : decode cX8_init 12 = .ok (.putfield 12, 3) := by decide +kernel
theorem dX8_init_15 : decode cX8_init 15 = .ok (.aload_n 0, 1) := by decide +kernel
theorem dX8_init_16 : decode cX8_init 16 = .ok (.new 16, 3) := by decide +kernel
theorem dX8_init_19 : decode cX8_init 19 = .ok (.dup, 1) := by decide +kernel
theorem dX8_init_20 : decode cX8_init 20 = .ok (.invokespecial 18, 3) := by decide +kernel
theorem dX8_init_23 : decode cX8_init 23 = .ok (.putfield 19, 3) := by decide +kernel
theorem dX8_init_26 : decode cX8_init 26 = .ok (.aload_n 0, 1) := by decide +kernel
theorem dX8_init_27 : decode cX8_init 27 = .ok (.new 23, 3) := by decide +kernel
theorem dX8_init_30 : decode cX8_init 30 = .ok (.dup, 1) := by decide +kernel
theorem dX8_init_31 : decode cX8_init 31 = .ok (.invokespecial 25, 3) := by decide +kernel
theorem dX8_init_34 : decode cX8_init 34 = .ok (.putfield 26, 3) := by decide +kernel
theorem dX8_init_37 : decode cX8_init 37 = .ok (.aload_n 0, 1) := by decide +kernel
theorem dX8_init_38 : decode cX8_init 38 = .ok (.bipush 10, 2) := by decide +kernel
theorem dX8_init_40 : decode cX8_init 40 = .ok (.anewarray 30, 3) := by decide +kernel
theorem dX8_init_43 : decode cX8_init 43 = .ok (.putfield 32, 3) := by decide +kernel
theorem dX8_init_46 : decode cX8_init 46 = .ok (.aload_n 0, 1) := by decide +kernel
theorem dX8_init_47 : decode cX8_init 47 = .ok (.new 36, 3) := by decide +kernel
theorem dX8_init_50 : decode cX8_init 50 = .ok (.dup, 1) := by decide +kernel
theorem dX8_init_51 : decode cX8_init 51 = .ok (.invokespecial 38, 3) := by decide +kernel
theorem dX8_init_54 : decode cX8_init 54 = .ok (.putfield 39, 3) := by decide +kernel
theorem dX8_init_57 : decode cX8_init 57 = .ok (.aload_n 0, 1) := by decide +kernel
theorem dX8_init_58 : decode cX8_init 58 = .ok (.iconst 0, 1) := by decide +kernel
theorem dX8_init_59 : decode cX8_init 59 = .ok (.putfield 43, 3) := by decide +kernel
theorem dX8_init_62 : decode cX8_init 62 = .ok (.aload_n 0, 1) := by decide +kernel
theorem dX8_init_63 : decode cX8_init 63 = .ok (.iconst 0, 1) := by decide +kernel
theorem dX8_init_64 : decode cX8_init 64 = .ok (.putfield 47, 3) := by decide +kernel
theorem dX8_init_67 : decode cX8_init 67 = .ok (.aload_n 0, 1) := by decide +kernel
theorem dX8_init_68 : decode cX8_init 68 = .ok (.iconst (-1), 1) := by decide +kernel
theorem dX8_init_69 : decode cX8_init 69 = .ok (.putfield 50, 3) := by decide +kernel
theorem dX8_init_72 : decode cX8_init 72 = .ok (.aload_n 0, 1) := by decide +kernel
theorem dX8_init_73 : decode cX8_init 73 = .ok (.iconst 0, 1) := by decide +kernel
theorem dX8_init_74 : decode cX8_init 74 = .ok (.putfield 53, 3) := by decide +kernel
theorem dX8_init_77 : decode cX8_init 77 = .ok (.aload_n 0, 1) := by decide +kernel
theorem dX8_init_78 : decode cX8_init 78 = .ok (.new 36, 3) := by decide +kernel
theorem dX8_init_81 : decode cX8_init 81 = .ok (.dup, 1) := by decide +kernel
theorem dX8_init_82 : decode cX8_init 82 = .ok (.invokespecial 38, 3) := by decide +kernel
theorem dX8_init_85 : decode cX8_init 85 = .ok (.putfield 56, 3) := by decide +kernel
theorem dX8_init_88 : decode cX8_init 88 = .ok (.aload_n 0, 1) := by decide +kernel
theorem dX8_init_89 : decode cX8_init 89 = .ok (.new 9, 3) := by decide +kernel
theorem dX8_init_92 : decode cX8_init 92 = .ok (.dup, 1) := by decide +kernel
theorem dX8_init_93 : decode cX8_init 93 = .ok (.invokespecial 11, 3) := by decide +kernel
theorem dX8_init_96 : decode cX8_init 96 = .ok (.putfield 59, 3) := by decide +kernel
theorem dX8_init_99 : decode cX8_init 99 = .ok (.aload_n 0, 1) := by decide +kernel
theorem dX8_init_100 : decode cX8_init 100 = .ok (.new 62, 3) := by decide +kernel
theorem dX8_init_103 : decode cX8_init 103 = .ok (.dup, 1) := by decide +kernel
theorem dX8_init_104 : decode cX8_init 104 = .ok (.invokespecial 64, 3) := by decide +kernel
theorem dX8_init_107 : decode cX8_init 107 = .ok (.putfield 65, 3) := by decide +kernel
theorem dX8_init_110 : decode cX8_init 110 = .ok (.aload_n 0, 1) := by decide +kernel
theorem dX8_init_111 : decode cX8_init 111 = .ok (.new 62, 3) := by decide +kernel
theorem dX8_init_114 : decode cX8_init 114 = .ok (.dup, 1) := by decide +kernel
theorem dX8_init_115 : decode cX8_init 115 = .ok (.invokespecial 64, 3) := by decide +kernel
theorem dX8_init_118 : decode cX8_init 118 = .ok (.putfield 69, 3) := by decide +kernel
theorem dX8_init_121 : decode cX8_init 121 = .ok (.return_, 1) := by decide +kernel
theorem dX8_row_0 : decode cX8_row 0 = .ok (.iload_n 1, 1) := by decide +kernel
theorem dX8_row_1 : decode cX8_row 1 = .ok (.ifCond .lt 15, 3) := by decide +kernel
theorem dX8_row_4 : decode cX8_row 4 = .ok (.iload_n 1, 1) := by decide +kernel
theorem dX8_row_5 : decode cX8_row 5 = .ok (.iconst 4, 1) := by decide +kernel
theorem dX8_row_6 : decode cX8_row 6 = .ok (.if_icmp .ge 10, 3) := by decide +kernel
theorem dX8_row_9 : decode cX8_row 9 = .ok (.iload_n 2, 1) := by decide +kernel
theorem dX8_row_10 : decode cX8_row 10 = .ok (.invokestatic 72, 3) := by decide +kernel
theorem dX8_row_13 : decode cX8_row 13 = .ok (.ifCond .ne 9, 3) := by decide +kernel
theorem dX8_row_16 : decode cX8_row 16 = .ok (.aload_n 0, 1) := by decide +kernel
theorem dX8_row_17 : decode cX8_row 17 = .ok (.iconst (-1), 1) := by decide +kernel
theorem dX8_row_18 : decode cX8_row 18 = .ok (.invokevirtual 76, 3) := by decide +kernel
theorem dX8_row_21 : decode cX8_row 21 = .ok (.ireturn, 1) := by decide +kernel
theorem dX8_row_22 : decode cX8_row 22 = .ok (.aload_n 0, 1) := by decide +kernel
theorem dX8_row_23 : decode cX8_row 23 = .ok (.iload_n 3, 1) := by decide +kernel
theorem dX8_row_24 : decode cX8_row 24 = .ok (.invokevirtual 80, 3) := by decide +kernel
theorem dX8_row_27 : decode cX8_row 27 = .ok (.ifCond .eq 12, 3) := by decide +kernel
theorem dX8_row_30 : decode cX8_row 30 = .ok (.aload_n 0, 1) := by decide +kernel
theorem dX8_row_31 : decode cX8_row 31 = .ok (.iload 4, 2) := by decide +kernel
theorem dX8_row_33 : decode cX8_row 33 = .ok (.invokevirtual 80, 3) := by decide +kernel
theorem dX8_row_36 : decode cX8_row 36 = .ok (.ifCond .ne 10, 3) := by decide +kernel
theorem dX8_row_39 : decode cX8_row 39 = .ok (.aload_n 0, 1) := by decide +kernel
theorem dX8_row_40 : decode cX8_row 40 = .ok (.bipush (-2), 2) := by decide +kernel
theorem dX8_row_42 : decode cX8_row 42 = .ok (.invokevirtual 76, 3) := by decide +kernel
theorem dX8_row_45 : decode cX8_row 45 = .ok (.ireturn, 1) := by decide +kernel
theorem dX8_row_46 : decode cX8_row 46 = .ok (.aload_n 0, 1) := by decide +kernel
theorem dX8_row_47 : decode cX8_row 47 = .ok (.getfield 12, 3) := by decide +kernel
theorem dX8_row_50 : decode cX8_row 50 = .ok (.invokevirtual 83, 3) := by decide +kernel
theorem dX8_row_53 : decode cX8_row 53 = .ok (.ifCond .ne 13, 3) := by decide +kernel
theorem dX8_row_56 : decode cX8_row 56 = .ok (.aload_n 0, 1) := by decide +kernel
theorem dX8_row_57 : decode cX8_row 57 = .ok (.getfield 19, 3) := by decide +kernel
theorem dX8_row_60 : decode cX8_row 60 = .ok (.invokevirtual 87, 3) := by decide +kernel
theorem dX8_row_63 : decode cX8_row 63 = .ok (.ifCond .eq 10, 3) := by decide +kernel
theorem dX8_row_66 : decode cX8_row 66 = .ok (.aload_n 0, 1) := by decide +kernel
theorem dX8_row_67 : decode cX8_row 67 = .ok (.bipush (-5), 2) := by decide +kernel
theorem dX8_row_69 : decode cX8_row 69 = .ok (.invokevirtual 76, 3) := by decide +kernel
theorem dX8_row_72 : decode cX8_row 72 = .ok (.ireturn, 1) := by decide +kernel
theorem dX8_row_73 : decode cX8_row 73 = .ok (.aload_n 0, 1) := by decide +kernel
theorem dX8_row_74 : decode cX8_row 74 = .ok (.getfield 12, 3) := by decide +kernel
theorem dX8_row_77 : decode cX8_row 77 = .ok (.invokevirtual 88, 3) := by decide +kernel
theorem dX8_row_80 : decode cX8_row 80 = .ok (.istore 5, 2) := by decide +kernel
theorem dX8_row_82 : decode cX8_row 82 = .ok (.aload_n 0, 1) := by decide +kernel
theorem dX8_row_83 : decode cX8_row 83 = .ok (.new 92, 3) := by decide +kernel
theorem dX8_row_86 : decode cX8_row 86 = .ok (.dup, 1) := by decide +kernel
theorem dX8_row_87 : decode cX8_row 87 = .ok (.iload 5, 2) := by decide +kernel
theorem dX8_row_89 : decode cX8_row 89 = .ok (.iload_n 1, 1) := by decide +kernel
theorem dX8_row_90 : decode cX8_row 90 = .ok (.iload_n 2, 1) := by decide +kernel
theorem dX8_row_91 : decode cX8_row 91 = .ok (.iload_n 3, 1) := by decide +kernel
theorem dX8_row_92 : decode cX8_row 92 = .ok (.iload 4, 2) := by decide +kernel
theorem dX8_row_94 : decode cX8_row 94 = .ok (.iconst 1, 1) := by decide +kernel
theorem dX8_row_95 : decode cX8_row 95 = .ok (.invokespecial 94, 3) := by decide +kernel
theorem dX8_row_98 : decode cX8_row 98 = .ok (.invokevirtual 97, 3) := by decide +kernel
theorem dX8_row_101 : decode cX8_row 101 = .ok (.aload_n 0, 1) := by decide +kernel
theorem dX8_row_102 : decode cX8_row 102 = .ok (.iload 5, 2) := by decide +kernel
theorem dX8_row_104 : decode cX8_row 104 = .ok (.invokevirtual 101, 3) := by decide +kernel
theorem dX8_row_107 : decode cX8_row 107 = .ok (.ireturn, 1) := by decide +kernel
theorem dX8_value_0 : decode cX8_value 0 = .ok (.iload_n 2, 1) := by decide +kernel
theorem dX8_value_1 : decode cX8_value 1 = .ok (.invokestatic 72, 3) := by decide +kernel
theorem dX8_value_4 : decode cX8_value 4 = .ok (.ifCond .ne 9, 3) := by decide +kernel
theorem dX8_value_7 : decode cX8_value 7 = .ok (.aload_n 0, 1) := by decide +kernel
theorem dX8_value_8 : decode cX8_value 8 = .ok (.iconst (-1), 1) := by decide +kernel
theorem dX8_value_9 : decode cX8_value 9 = .ok (.invokevirtual 76, 3) := by decide +kernel
theorem dX8_value_12 : decode cX8_value 12 = .ok (.ireturn, 1) := by decide +kernel
theorem dX8_value_13 : decode cX8_value 13 = .ok (.aload_n 0, 1) := by decide +kernel
theorem dX8_value_14 : decode cX8_value 14 = .ok (.getfield 12, 3) := by decide +kernel
theorem dX8_value_17 : decode cX8_value 17 = .ok (.iload_n 1, 1) := by decide +kernel
theorem dX8_value_18 : decode cX8_value 18 = .ok (.invokevirtual 104, 3) := by decide +kernel
theorem dX8_value_21 : decode cX8_value 21 = .ok (.astore_n 3, 1) := by decide +kernel
theorem dX8_value_22 : decode cX8_value 22 = .ok (.aload_n 3, 1) := by decide +kernel
theorem dX8_value_23 : decode cX8_value 23 = .ok (.ifnonnull 10, 3) := by decide +kernel
theorem dX8_value_26 : decode cX8_value 26 = .ok (.aload_n 0, 1) := by decide +kernel
theorem dX8_value_27 : decode cX8_value 27 = .ok (.bipush (-2), 2) := by decide +kernel
theorem dX8_value_29 : decode cX8_value 29 = .ok (.invokevirtual 76, 3) := by decide +kernel
theorem dX8_value_32 : decode cX8_value 32 = .ok (.ireturn, 1) := by decide +kernel
theorem dX8_value_33 : decode cX8_value 33 = .ok (.aload_n 0, 1) := by decide +kernel
theorem dX8_value_34 : decode cX8_value 34 = .ok (.getfield 19, 3) := by decide +kernel
theorem dX8_value_37 : decode cX8_value 37 = .ok (.invokevirtual 87, 3) := by decide +kernel
theorem dX8_value_40 : decode cX8_value 40 = .ok (.ifCond .eq 10, 3) := by decide +kernel
theorem dX8_value_43 : decode cX8_value 43 = .ok (.aload_n 0, 1) := by decide +kernel
theorem dX8_value_44 : decode cX8_value 44 = .ok (.bipush (-5), 2) := by decide +kernel
theorem dX8_value_46 : decode cX8_value 46 = .ok (.invokevirtual 76, 3) := by decide +kernel
theorem dX8_value_49 : decode cX8_value 49 = .ok (.ireturn, 1) := by decide +kernel
theorem dX8_value_50 : decode cX8_value 50 = .ok (.aload_n 0, 1) := by decide +kernel
theorem dX8_value_51 : decode cX8_value 51 = .ok (.aload_n 3, 1) := by decide +kernel
theorem dX8_value_52 : decode cX8_value 52 = .ok (.iload_n 2, 1) := by decide +kernel
theorem dX8_value_53 : decode cX8_value 53 = .ok (.invokevirtual 108, 3) := by decide +kernel
theorem dX8_value_56 : decode cX8_value 56 = .ok (.invokevirtual 97, 3) := by decide +kernel
theorem dX8_value_59 : decode cX8_value 59 = .ok (.aload_n 0, 1) := by decide +kernel
theorem dX8_value_60 : decode cX8_value 60 = .ok (.aload_n 3, 1) := by decide +kernel
theorem dX8_value_61 : decode cX8_value 61 = .ok (.getfield 111, 3) := by decide +kernel
theorem dX8_value_64 : decode cX8_value 64 = .ok (.invokevirtual 101, 3) := by decide +kernel
theorem dX8_value_67 : decode cX8_value 67 = .ok (.ireturn, 1) := by decide +kernel
theorem dX8_refer_0 : decode cX8_refer 0 = .ok (.iload_n 2, 1) := by decide +kernel
theorem dX8_refer_1 : decode cX8_refer 1 = .ok (.ifCond .eq 14, 3) := by decide +kernel
theorem dX8_refer_4 : decode cX8_refer 4 = .ok (.iload_n 2, 1) := by decide +kernel
theorem dX8_refer_5 : decode cX8_refer 5 = .ok (.iconst 1, 1) := by decide +kernel
theorem dX8_refer_6 : decode cX8_refer 6 = .ok (.if_icmp .eq 9, 3) := by decide +kernel
theorem dX8_refer_9 : decode cX8_refer 9 = .ok (.aload_n 0, 1) := by decide +kernel
theorem dX8_refer_10 : decode cX8_refer 10 = .ok (.iconst (-1), 1) := by decide +kernel
theorem dX8_refer_11 : decode cX8_refer 11 = .ok (.invokevirtual 76, 3) := by decide +kernel
theorem dX8_refer_14 : decode cX8_refer 14 = .ok (.ireturn, 1) := by decide +kernel
theorem dX8_refer_15 : decode cX8_refer 15 = .ok (.aload_n 0, 1) := by decide +kernel
theorem dX8_refer_16 : decode cX8_refer 16 = .ok (.getfield 12, 3) := by decide +kernel
theorem dX8_refer_19 : decode cX8_refer 19 = .ok (.iload_n 1, 1) := by decide +kernel
theorem dX8_refer_20 : decode cX8_refer 20 = .ok (.invokevirtual 104, 3) := by decide +kernel
theorem dX8_refer_23 : decode cX8_refer 23 = .ok (.astore 4, 2) := by decide +kernel
theorem dX8_refer_25 : decode cX8_refer 25 = .ok (.aload 4, 2) := by decide +kernel
theorem dX8_refer_27 : decode cX8_refer 27 = .ok (.ifnull 11, 3) := by decide +kernel
theorem dX8_refer_30 : decode cX8_refer 30 = .ok (.aload_n 0, 1) := by decide +kernel
theorem dX8_refer_31 : decode cX8_refer 31 = .ok (.iload_n 3, 1) := by decide +kernel
theorem dX8_refer_32 : decode cX8_refer 32 = .ok (.invokevirtual 80, 3) := by decide +kernel
theorem dX8_refer_35 : decode cX8_refer 35 = .ok (.ifCond .ne 10, 3) := by decide +kernel
theorem dX8_refer_38 : decode cX8_refer 38 = .ok (.aload_n 0, 1) := by decide +kernel
theorem dX8_refer_39 : decode cX8_refer 39 = .ok (.bipush (-2), 2) := by decide +kernel
theorem dX8_refer_41 : decode cX8_refer 41 = .ok (.invokevirtual 76, 3) := by decide +kernel
theorem dX8_refer_44 : decode cX8_refer 44 = .ok (.ireturn, 1) := by decide +kernel
theorem dX8_refer_45 : decode cX8_refer 45 = .ok (.aload_n 0, 1) := by decide +kernel
theorem dX8_refer_46 : decode cX8_refer 46 = .ok (.getfield 19, 3) := by decide +kernel
theorem dX8_refer_49 : decode cX8_refer 49 = .ok (.invokevirtual 87, 3) := by decide +kernel
theorem dX8_refer_52 : decode cX8_refer 52 = .ok (.ifCond .eq 10, 3) := by decide +kernel
theorem dX8_refer_55 : decode cX8_refer 55 = .ok (.aload_n 0, 1) := by decide +kernel
theorem dX8_refer_56 : decode cX8_refer 56 = .ok (.bipush (-5), 2) := by decide +kernel
theorem dX8_refer_58 : decode cX8_refer 58 = .ok (.invokevirtual 76, 3) := by decide +kernel
theorem dX8_refer_61 : decode cX8_refer 61 = .ok (.ireturn, 1) := by decide +kernel
theorem dX8_refer_62 : decode cX8_refer 62 = .ok (.aload_n 0, 1) := by decide +kernel
theorem dX8_refer_63 : decode cX8_refer 63 = .ok (.aload 4, 2) := by decide +kernel
theorem dX8_refer_65 : decode cX8_refer 65 = .ok (.iload_n 2, 1) := by decide +kernel
theorem dX8_refer_66 : decode cX8_refer 66 = .ok (.iload_n 3, 1) := by decide +kernel
theorem dX8_refer_67 : decode cX8_refer 67 = .ok (.invokevirtual 114, 3) := by decide +kernel
theorem dX8_refer_70 : decode cX8_refer 70 = .ok (.invokevirtual 97, 3) := by decide +kernel
theorem dX8_refer_73 : decode cX8_refer 73 = .ok (.aload_n 0, 1) := by decide +kernel
theorem dX8_refer_74 : decode cX8_refer 74 = .ok (.iconst 0, 1) := by decide +kernel
theorem dX8_refer_75 : decode cX8_refer 75 = .ok (.invokevirtual 101, 3) := by decide +kernel
theorem dX8_refer_78 : decode cX8_refer 78 = .ok (.ireturn, 1) := by decide +kernel
theorem dX8_go_0 : decode cX8_go 0 = .ok (.aload_n 0, 1) := by decide +kernel
theorem dX8_go_1 : decode cX8_go 1 = .ok (.getfield 12, 3) := by decide +kernel
theorem dX8_go_4 : decode cX8_go 4 = .ok (.iload_n 1, 1) := by decide +kernel
theorem dX8_go_5 : decode cX8_go 5 = .ok (.invokevirtual 104, 3) := by decide +kernel
theorem dX8_go_8 : decode cX8_go 8 = .ok (.astore_n 2, 1) := by decide +kernel
theorem dX8_go_9 : decode cX8_go 9 = .ok (.aload_n 2, 1) := by decide +kernel
theorem dX8_go_10 : decode cX8_go 10 = .ok (.ifnonnull 10, 3) := by decide +kernel
theorem dX8_go_13 : decode cX8_go 13 = .ok (.aload_n 0, 1) := by decide +kernel
theorem dX8_go_14 : decode cX8_go 14 = .ok (.bipush (-2), 2) := by decide +kernel
theorem dX8_go_16 : decode cX8_go 16 = .ok (.invokevirtual 76, 3) := by decide +kernel
theorem dX8_go_19 : decode cX8_go 19 = .ok (.ireturn, 1) := by decide +kernel
theorem dX8_go_20 : decode cX8_go 20 = .ok (.aload_n 0, 1) := by decide +kernel
theorem dX8_go_21 : decode cX8_go 21 = .ok (.getfield 19, 3) := by decide +kernel
theorem dX8_go_24 : decode cX8_go 24 = .ok (.invokevirtual 87, 3) := by decide +kernel
theorem dX8_go_27 : decode cX8_go 27 = .ok (.ifCond .eq 10, 3) := by decide +kernel
theorem dX8_go_30 : decode cX8_go 30 = .ok (.aload_n 0, 1) := by decide +kernel
theorem dX8_go_31 : decode cX8_go 31 = .ok (.bipush (-5), 2) := by decide +kernel
theorem dX8_go_33 : decode cX8_go 33 = .ok (.invokevirtual 76, 3) := by decide +kernel
theorem dX8_go_36 : decode cX8_go 36 = .ok (.ireturn, 1) := by decide +kernel
theorem dX8_go_37 : decode cX8_go 37 = .ok (.aload_n 0, 1) := by decide +kernel
theorem dX8_go_38 : decode cX8_go 38 = .ok (.aload_n 2, 1) := by decide +kernel
theorem dX8_go_39 : decode cX8_go 39 = .ok (.invokevirtual 118, 3) := by decide +kernel
theorem dX8_go_42 : decode cX8_go 42 = .ok (.invokevirtual 97, 3) := by decide +kernel
theorem dX8_go_45 : decode cX8_go 45 = .ok (.aload_n 0, 1) := by decide +kernel
theorem dX8_go_46 : decode cX8_go 46 = .ok (.iconst 0, 1) := by decide +kernel
theorem dX8_go_47 : decode cX8_go 47 = .ok (.invokevirtual 101, 3) := by decide +kernel
theorem dX8_go_50 : decode cX8_go 50 = .ok (.ireturn, 1) := by decide +kernel
theorem dX8_of_0 : decode cX8_of 0 = .ok (.aload_n 0, 1) := by decide +kernel
theorem dX8_of_1 : decode cX8_of 1 = .ok (.getfield 12, 3) := by decide +kernel
theorem dX8_of_4 : decode cX8_of 4 = .ok (.iload_n 1, 1) := by decide +kernel
theorem dX8_of_5 : decode cX8_of 5 = .ok (.invokevirtual 122, 3) := by decide +kernel
theorem dX8_of_8 : decode cX8_of 8 = .ok (.astore_n 3, 1) := by decide +kernel
theorem dX8_of_9 : decode cX8_of 9 = .ok (.aload_n 3, 1) := by decide +kernel
theorem dX8_of_10 : decode cX8_of 10 = .ok (.ifnonnull 7, 3) := by decide +kernel
theorem dX8_of_13 : decode cX8_of 13 = .ok (.sipush (-5000), 3) := by decide +kernel
theorem dX8_of_16 : decode cX8_of 16 = .ok (.ireturn, 1) := by decide +kernel
theorem dX8_of_17 : decode cX8_of 17 = .ok (.iload_n 2, 1) := by decide +kernel
theorem dX8_of_18 : decode cX8_of 18 = .ok (.tableswitch 67 0 4 #[34, 39, 44, 49, 54], 34) := by decide +kernel
theorem dX8_of_52 : decode cX8_of 52 = .ok (.aload_n 3, 1) := by decide +kernel
theorem dX8_of_53 : decode cX8_of 53 = .ok (.getfield 125, 3) := by decide +kernel
theorem dX8_of_56 : decode cX8_of 56 = .ok (.ireturn, 1) := by decide +kernel
theorem dX8_of_57 : decode cX8_of 57 = .ok (.aload_n 3, 1) := by decide +kernel
theorem dX8_of_58 : decode cX8_of 58 = .ok (.getfield 111, 3) := by decide +kernel
theorem dX8_of_61 : decode cX8_of 61 = .ok (.ireturn, 1) := by decide +kernel
theorem dX8_of_62 : decode cX8_of 62 = .ok (.aload_n 3, 1) := by decide +kernel
theorem dX8_of_63 : decode cX8_of 63 = .ok (.getfield 128, 3) := by decide +kernel
theorem dX8_of_66 : decode cX8_of 66 = .ok (.ireturn, 1) := by decide +kernel
theorem dX8_of_67 : decode cX8_of 67 = .ok (.aload_n 3, 1) := by decide +kernel
theorem dX8_of_68 : decode cX8_of 68 = .ok (.getfield 131, 3) := by decide +kernel
theorem dX8_of_71 : decode cX8_of 71 = .ok (.ireturn, 1) := by decide +kernel
theorem dX8_of_72 : decode cX8_of 72 = .ok (.aload_n 3, 1) := by decide +kernel
theorem dX8_of_73 : decode cX8_of 73 = .ok (.getfield 134, 3) := by decide +kernel
theorem dX8_of_76 : decode cX8_of 76 = .ok (.ifCond .eq 7, 3) := by decide +kernel
theorem dX8_of_79 : decode cX8_of 79 = .ok (.iconst 1, 1) := by decide +kernel
theorem dX8_of_80 : decode cX8_of 80 = .ok (.goto 4, 3) := by decide +kernel
theorem dX8_of_83 : decode cX8_of 83 = .ok (.iconst 0, 1) := by decide +kernel
theorem dX8_of_84 : decode cX8_of 84 = .ok (.ireturn, 1) := by decide +kernel
theorem dX8_of_85 : decode cX8_of 85 = .ok (.sipush (-5000), 3) := by decide +kernel
theorem dX8_of_88 : decode cX8_of 88 = .ok (.ireturn, 1) := by decide +kernel
theorem dX8_feed_0 : decode cX8_feed 0 = .ok (.aload_n 0, 1) := by decide +kernel
theorem dX8_feed_1 : decode cX8_feed 1 = .ok (.getfield 26, 3) := by decide +kernel
theorem dX8_feed_4 : decode cX8_feed 4 = .ok (.invokevirtual 138, 3) := by decide +kernel
theorem dX8_feed_7 : decode cX8_feed 7 = .ok (.bipush 20, 2) := by decide +kernel
theorem dX8_feed_9 : decode cX8_feed 9 = .ok (.iadd, 1) := by decide +kernel
theorem dX8_feed_10 : decode cX8_feed 10 = .ok (.sipush 200, 3) := by decide +kernel
theorem dX8_feed_13 : decode cX8_feed 13 = .ok (.if_icmp .le 5, 3) := by decide +kernel
theorem dX8_feed_16 : decode cX8_feed 16 = .ok (.iconst (-1), 1) := by decide +kernel
theorem dX8_feed_17 : decode cX8_feed 17 = .ok (.ireturn, 1) := by decide +kernel
theorem dX8_feed_18 : decode cX8_feed 18 = .ok (.aload_n 0, 1) := by decide +kernel
theorem dX8_feed_19 : decode cX8_feed 19 = .ok (.getfield 26, 3) := by decide +kernel
theorem dX8_feed_22 : decode cX8_feed 22 = .ok (.iload_n 1, 1) := by decide +kernel
theorem dX8_feed_23 : decode cX8_feed 23 = .ok (.invokevirtual 141, 3) := by decide +kernel
theorem dX8_feed_26 : decode cX8_feed 26 = .ok (.aload_n 0, 1) := by decide +kernel
theorem dX8_feed_27 : decode cX8_feed 27 = .ok (.getfield 26, 3) := by decide +kernel
theorem dX8_feed_30 : decode cX8_feed 30 = .ok (.iload_n 2, 1) := by decide +kernel
theorem dX8_feed_31 : decode cX8_feed 31 = .ok (.invokevirtual 141, 3) := by decide +kernel
theorem dX8_feed_34 : decode cX8_feed 34 = .ok (.aload_n 0, 1) := by decide +kernel
theorem dX8_feed_35 : decode cX8_feed 35 = .ok (.getfield 26, 3) := by decide +kernel
theorem dX8_feed_38 : decode cX8_feed 38 = .ok (.iload_n 3, 1) := by decide +kernel
theorem dX8_feed_39 : decode cX8_feed 39 = .ok (.invokevirtual 141, 3) := by decide +kernel
theorem dX8_feed_42 : decode cX8_feed 42 = .ok (.aload_n 0, 1) := by decide +kernel
theorem dX8_feed_43 : decode cX8_feed 43 = .ok (.getfield 26, 3) := by decide +kernel
theorem dX8_feed_46 : decode cX8_feed 46 = .ok (.iload 4, 2) := by decide +kernel
theorem dX8_feed_48 : decode cX8_feed 48 = .ok (.invokevirtual 141, 3) := by decide +kernel
theorem dX8_feed_51 : decode cX8_feed 51 = .ok (.aload_n 0, 1) := by decide +kernel
theorem dX8_feed_52 : decode cX8_feed 52 = .ok (.getfield 26, 3) := by decide +kernel
theorem dX8_feed_55 : decode cX8_feed 55 = .ok (.iload 5, 2) := by decide +kernel
theorem dX8_feed_57 : decode cX8_feed 57 = .ok (.invokevirtual 141, 3) := by decide +kernel
theorem dX8_feed_60 : decode cX8_feed 60 = .ok (.aload_n 0, 1) := by decide +kernel
theorem dX8_feed_61 : decode cX8_feed 61 = .ok (.getfield 26, 3) := by decide +kernel
theorem dX8_feed_64 : decode cX8_feed 64 = .ok (.invokevirtual 138, 3) := by decide +kernel
theorem dX8_feed_67 : decode cX8_feed 67 = .ok (.ireturn, 1) := by decide +kernel
theorem dX8_end_0 : decode cX8_end 0 = .ok (.iload_n 1, 1) := by decide +kernel
theorem dX8_end_1 : decode cX8_end 1 = .ok (.ifCond .lt 14, 3) := by decide +kernel
theorem dX8_end_4 : decode cX8_end 4 = .ok (.iload_n 1, 1) := by decide +kernel
theorem dX8_end_5 : decode cX8_end 5 = .ok (.aload_n 0, 1) := by decide +kernel
theorem dX8_end_6 : decode cX8_end 6 = .ok (.getfield 26, 3) := by decide +kernel
theorem dX8_end_9 : decode cX8_end 9 = .ok (.invokevirtual 138, 3) := by decide +kernel
theorem dX8_end_12 : decode cX8_end 12 = .ok (.if_icmp .le 5, 3) := by decide +kernel
theorem dX8_end_15 : decode cX8_end 15 = .ok (.iconst (-1), 1) := by decide +kernel
theorem dX8_end_16 : decode cX8_end 16 = .ok (.ireturn, 1) := by decide +kernel
theorem dX8_end_17 : decode cX8_end 17 = .ok (.aload_n 0, 1) := by decide +kernel
theorem dX8_end_18 : decode cX8_end 18 = .ok (.getfield 26, 3) := by decide +kernel
theorem dX8_end_21 : decode cX8_end 21 = .ok (.iload_n 1, 1) := by decide +kernel
theorem dX8_end_22 : decode cX8_end 22 = .ok (.invokevirtual 145, 3) := by decide +kernel
theorem dX8_end_25 : decode cX8_end 25 = .ok (.iload_n 1, 1) := by decide +kernel
theorem dX8_end_26 : decode cX8_end 26 = .ok (.ireturn, 1) := by decide +kernel
theorem dX8_shape_0 : decode cX8_shape 0 = .ok (.aload_n 0, 1) := by decide +kernel
theorem dX8_shape_1 : decode cX8_shape 1 = .ok (.getfield 56, 3) := by decide +kernel
theorem dX8_shape_4 : decode cX8_shape 4 = .ok (.invokevirtual 148, 3) := by decide +kernel
theorem dX8_shape_7 : decode cX8_shape 7 = .ok (.new 151, 3) := by decide +kernel
theorem dX8_shape_10 : decode cX8_shape 10 = .ok (.dup, 1) := by decide +kernel
theorem dX8_shape_11 : decode cX8_shape 11 = .ok (.aload_n 0, 1) := by decide +kernel
theorem dX8_shape_12 : decode cX8_shape 12 = .ok (.getfield 26, 3) := by decide +kernel
theorem dX8_shape_15 : decode cX8_shape 15 = .ok (.aload_n 0, 1) := by decide +kernel
theorem dX8_shape_16 : decode cX8_shape 16 = .ok (.getfield 56, 3) := by decide +kernel
theorem dX8_shape_19 : decode cX8_shape 19 = .ok (.invokespecial 153, 3) := by decide +kernel
theorem dX8_shape_22 : decode cX8_shape 22 = .ok (.astore_n 1, 1) := by decide +kernel
theorem dX8_shape_23 : decode cX8_shape 23 = .ok (.aload_n 1, 1) := by decide +kernel
theorem dX8_shape_24 : decode cX8_shape 24 = .ok (.invokevirtual 156, 3) := by decide +kernel
theorem dX8_shape_27 : decode cX8_shape 27 = .ok (.istore_n 2, 1) := by decide +kernel
theorem dX8_shape_28 : decode cX8_shape 28 = .ok (.aload_n 0, 1) := by decide +kernel
theorem dX8_shape_29 : decode cX8_shape 29 = .ok (.iload_n 2, 1) := by decide +kernel
theorem dX8_shape_30 : decode cX8_shape 30 = .ok (.ifCond .eq 7, 3) := by decide +kernel
theorem dX8_shape_33 : decode cX8_shape 33 = .ok (.iconst (-1), 1) := by decide +kernel
theorem dX8_shape_34 : decode cX8_shape 34 = .ok (.goto 7, 3) := by decide +kernel
theorem dX8_shape_37 : decode cX8_shape 37 = .ok (.aload_n 1, 1) := by decide +kernel
theorem dX8_shape_38 : decode cX8_shape 38 = .ok (.invokevirtual 159, 3) := by decide +kernel
theorem dX8_shape_41 : decode cX8_shape 41 = .ok (.putfield 50, 3) := by decide +kernel
theorem dX8_shape_44 : decode cX8_shape 44 = .ok (.aload_n 0, 1) := by decide +kernel
theorem dX8_shape_45 : decode cX8_shape 45 = .ok (.getfield 26, 3) := by decide +kernel
theorem dX8_shape_48 : decode cX8_shape 48 = .ok (.iconst 0, 1) := by decide +kernel
theorem dX8_shape_49 : decode cX8_shape 49 = .ok (.invokevirtual 145, 3) := by decide +kernel
theorem dX8_shape_52 : decode cX8_shape 52 = .ok (.iload_n 2, 1) := by decide +kernel
theorem dX8_shape_53 : decode cX8_shape 53 = .ok (.ifCond .ne 10, 3) := by decide +kernel
theorem dX8_shape_56 : decode cX8_shape 56 = .ok (.aload_n 0, 1) := by decide +kernel
theorem dX8_shape_57 : decode cX8_shape 57 = .ok (.bipush (-6), 2) := by decide +kernel
theorem dX8_shape_59 : decode cX8_shape 59 = .ok (.invokevirtual 76, 3) := by decide +kernel
theorem dX8_shape_62 : decode cX8_shape 62 = .ok (.ireturn, 1) := by decide +kernel
theorem dX8_shape_63 : decode cX8_shape 63 = .ok (.aload_n 0, 1) := by decide +kernel
theorem dX8_shape_64 : decode cX8_shape 64 = .ok (.getfield 39, 3) := by decide +kernel
theorem dX8_shape_67 : decode cX8_shape 67 = .ok (.astore_n 3, 1) := by decide +kernel
theorem dX8_shape_68 : decode cX8_shape 68 = .ok (.aload_n 0, 1) := by decide +kernel
theorem dX8_shape_69 : decode cX8_shape 69 = .ok (.aload_n 0, 1) := by decide +kernel
theorem dX8_shape_70 : decode cX8_shape 70 = .ok (.getfield 56, 3) := by decide +kernel
theorem dX8_shape_73 : decode cX8_shape 73 = .ok (.putfield 39, 3) := by decide +kernel
theorem dX8_shape_76 : decode cX8_shape 76 = .ok (.aload_n 0, 1) := by decide +kernel
theorem dX8_shape_77 : decode cX8_shape 77 = .ok (.aload_n 3, 1) := by decide +kernel
theorem dX8_shape_78 : decode cX8_shape 78 = .ok (.putfield 56, 3) := by decide +kernel
theorem dX8_shape_81 : decode cX8_shape 81 = .ok (.aload_n 0, 1) := by decide +kernel
theorem dX8_shape_82 : decode cX8_shape 82 = .ok (.aload_n 0, 1) := by decide +kernel
theorem dX8_shape_83 : decode cX8_shape 83 = .ok (.getfield 39, 3) := by decide +kernel
theorem dX8_shape_86 : decode cX8_shape 86 = .ok (.invokevirtual 162, 3) := by decide +kernel
theorem dX8_shape_89 : decode cX8_shape 89 = .ok (.invokevirtual 101, 3) := by decide +kernel
theorem dX8_shape_92 : decode cX8_shape 92 = .ok (.ireturn, 1) := by decide +kernel
theorem dX8_fault_0 : decode cX8_fault 0 = .ok (.aload_n 0, 1) := by decide +kernel
theorem dX8_fault_1 : decode cX8_fault 1 = .ok (.getfield 50, 3) := by decide +kernel
theorem dX8_fault_4 : decode cX8_fault 4 = .ok (.ireturn, 1) := by decide +kernel
theorem dX8_size_0 : decode cX8_size 0 = .ok (.aload_n 0, 1) := by decide +kernel
theorem dX8_size_1 : decode cX8_size 1 = .ok (.getfield 65, 3) := by decide +kernel
theorem dX8_size_4 : decode cX8_size 4 = .ok (.aload_n 0, 1) := by decide +kernel
theorem dX8_size_5 : decode cX8_size 5 = .ok (.getfield 39, 3) := by decide +kernel
theorem dX8_size_8 : decode cX8_size 8 = .ok (.aload_n 0, 1) := by decide +kernel
theorem dX8_size_9 : decode cX8_size 9 = .ok (.getfield 12, 3) := by decide +kernel
theorem dX8_size_12 : decode cX8_size 12 = .ok (.iload_n 1, 1) := by decide +kernel
theorem dX8_size_13 : decode cX8_size 13 = .ok (.invokevirtual 165, 3) := by decide +kernel
theorem dX8_size_16 : decode cX8_size 16 = .ok (.aload_n 0, 1) := by decide +kernel
theorem dX8_size_17 : decode cX8_size 17 = .ok (.getfield 65, 3) := by decide +kernel
theorem dX8_size_20 : decode cX8_size 20 = .ok (.invokevirtual 169, 3) := by decide +kernel
theorem dX8_size_23 : decode cX8_size 23 = .ok (.ireturn, 1) := by decide +kernel
theorem dX8_mark_0 : decode cX8_mark 0 = .ok (.aload_n 0, 1) := by decide +kernel
theorem dX8_mark_1 : decode cX8_mark 1 = .ok (.getfield 65, 3) := by decide +kernel
theorem dX8_mark_4 : decode cX8_mark 4 = .ok (.aload_n 0, 1) := by decide +kernel
theorem dX8_mark_5 : decode cX8_mark 5 = .ok (.getfield 39, 3) := by decide +kernel
theorem dX8_mark_8 : decode cX8_mark 8 = .ok (.aload_n 0, 1) := by decide +kernel
theorem dX8_mark_9 : decode cX8_mark 9 = .ok (.getfield 12, 3) := by decide +kernel
theorem dX8_mark_12 : decode cX8_mark 12 = .ok (.iload_n 1, 1) := by decide +kernel
theorem dX8_mark_13 : decode cX8_mark 13 = .ok (.invokevirtual 165, 3) := by decide +kernel
theorem dX8_mark_16 : decode cX8_mark 16 = .ok (.aload_n 0, 1) := by decide +kernel
theorem dX8_mark_17 : decode cX8_mark 17 = .ok (.getfield 65, 3) := by decide +kernel
theorem dX8_mark_20 : decode cX8_mark 20 = .ok (.iload_n 2, 1) := by decide +kernel
theorem dX8_mark_21 : decode cX8_mark 21 = .ok (.invokevirtual 170, 3) := by decide +kernel
theorem dX8_mark_24 : decode cX8_mark 24 = .ok (.ireturn, 1) := by decide +kernel
theorem dX8_page_0 : decode cX8_page 0 = .ok (.iload 4, 2) := by decide +kernel
theorem dX8_page_2 : decode cX8_page 2 = .ok (.iconst (-1), 1) := by decide +kernel
theorem dX8_page_3 : decode cX8_page 3 = .ok (.if_icmp .ne 7, 3) := by decide +kernel
theorem dX8_page_6 : decode cX8_page 6 = .ok (.iconst 1, 1) := by decide +kernel
theorem dX8_page_7 : decode cX8_page 7 = .ok (.goto 4, 3) := by decide +kernel
theorem dX8_page_10 : decode cX8_page 10 = .ok (.iconst 0, 1) := by decide +kernel
theorem dX8_page_11 : decode cX8_page 11 = .ok (.istore 5, 2) := by decide +kernel
theorem dX8_page_13 : decode cX8_page 13 = .ok (.iload_n 2, 1) := by decide +kernel
theorem dX8_page_14 : decode cX8_page 14 = .ok (.iconst 1, 1) := by decide +kernel
theorem dX8_page_15 : decode cX8_page 15 = .ok (.if_icmp .lt 13, 3) := by decide +kernel
theorem dX8_page_18 : decode cX8_page 18 = .ok (.iload_n 2, 1) := by decide +kernel
theorem dX8_page_19 : decode cX8_page 19 = .ok (.bipush 100, 2) := by decide +kernel
theorem dX8_page_21 : decode cX8_page 21 = .ok (.if_icmp .gt 7, 3) := by decide +kernel
theorem dX8_page_24 : decode cX8_page 24 = .ok (.iload_n 3, 1) := by decide +kernel
theorem dX8_page_25 : decode cX8_page 25 = .ok (.ifCond .ge 16, 3) := by decide +kernel
theorem dX8_page_28 : decode cX8_page 28 = .ok (.iload 5, 2) := by decide +kernel
theorem dX8_page_30 : decode cX8_page 30 = .ok (.ifCond .eq 7, 3) := by decide +kernel
theorem dX8_page_33 : decode cX8_page 33 = .ok (.iconst 0, 1) := by decide +kernel
theorem dX8_page_34 : decode cX8_page 34 = .ok (.goto 6, 3) := by decide +kernel
theorem dX8_page_37 : decode cX8_page 37 = .ok (.sipush (-5000), 3) := by decide +kernel
theorem dX8_page_40 : decode cX8_page 40 = .ok (.ireturn, 1) := by decide +kernel
theorem dX8_page_41 : decode cX8_page 41 = .ok (.aload_n 0, 1) := by decide +kernel
theorem dX8_page_42 : decode cX8_page 42 = .ok (.getfield 65, 3) := by decide +kernel
theorem dX8_page_45 : decode cX8_page 45 = .ok (.aload_n 0, 1) := by decide +kernel
theorem dX8_page_46 : decode cX8_page 46 = .ok (.getfield 39, 3) := by decide +kernel
theorem dX8_page_49 : decode cX8_page 49 = .ok (.aload_n 0, 1) := by decide +kernel
theorem dX8_page_50 : decode cX8_page 50 = .ok (.getfield 12, 3) := by decide +kernel
theorem dX8_page_53 : decode cX8_page 53 = .ok (.iload_n 1, 1) := by decide +kernel
theorem dX8_page_54 : decode cX8_page 54 = .ok (.invokevirtual 165, 3) := by decide +kernel
theorem dX8_page_57 : decode cX8_page 57 = .ok (.iload_n 3, 1) := by decide +kernel
theorem dX8_page_58 : decode cX8_page 58 = .ok (.i2l, 1) := by decide +kernel
theorem dX8_page_59 : decode cX8_page 59 = .ok (.iload_n 2, 1) := by decide +kernel
theorem dX8_page_60 : decode cX8_page 60 = .ok (.i2l, 1) := by decide +kernel
theorem dX8_page_61 : decode cX8_page 61 = .ok (.lmul, 1) := by decide +kernel
theorem dX8_page_62 : decode cX8_page 62 = .ok (.lstore 6, 2) := by decide +kernel
theorem dX8_page_64 : decode cX8_page 64 = .ok (.lconst 0, 1) := by decide +kernel
theorem dX8_page_65 : decode cX8_page 65 = .ok (.iload_n 2, 1) := by decide +kernel
theorem dX8_page_66 : decode cX8_page 66 = .ok (.i2l, 1) := by decide +kernel
theorem dX8_page_67 : decode cX8_page 67 = .ok (.aload_n 0, 1) := by decide +kernel
theorem dX8_page_68 : decode cX8_page 68 = .ok (.getfield 65, 3) := by decide +kernel
theorem dX8_page_71 : decode cX8_page 71 = .ok (.invokevirtual 169, 3) := by decide +kernel
theorem dX8_page_74 : decode cX8_page 74 = .ok (.i2l, 1) := by decide +kernel
theorem dX8_page_75 : decode cX8_page 75 = .ok (.lload 6, 2) := by decide +kernel
theorem dX8_page_77 : decode cX8_page 77 = .ok (.lsub, 1) := by decide +kernel
theorem dX8_page_78 : decode cX8_page 78 = .ok (.invokestatic 172, 3) := by decide +kernel
theorem dX8_page_81 : decode cX8_page 81 = .ok (.invokestatic 178, 3) := by decide +kernel
theorem dX8_page_84 : decode cX8_page 84 = .ok (.lstore 8, 2) := by decide +kernel
theorem dX8_page_86 : decode cX8_page 86 = .ok (.iload 5, 2) := by decide +kernel
theorem dX8_page_88 : decode cX8_page 88 = .ok (.ifCond .eq 7, 3) := by decide +kernel
theorem dX8_page_91 : decode cX8_page 91 = .ok (.lload 8, 2) := by decide +kernel
theorem dX8_page_93 : decode cX8_page 93 = .ok (.l2i, 1) := by decide +kernel
theorem dX8_page_94 : decode cX8_page 94 = .ok (.ireturn, 1) := by decide +kernel
theorem dX8_page_95 : decode cX8_page 95 = .ok (.iload 4, 2) := by decide +kernel
theorem dX8_page_97 : decode cX8_page 97 = .ok (.ifCond .lt 28, 3) := by decide +kernel
theorem dX8_page_100 : decode cX8_page 100 = .ok (.iload 4, 2) := by decide +kernel
theorem dX8_page_102 : decode cX8_page 102 = .ok (.i2l, 1) := by decide +kernel
theorem dX8_page_103 : decode cX8_page 103 = .ok (.lload 8, 2) := by decide +kernel
theorem dX8_page_105 : decode cX8_page 105 = .ok (.lcmp, 1) := by decide +kernel
theorem dX8_page_106 : decode cX8_page 106 = .ok (.ifCond .ge 19, 3) := by decide +kernel
theorem dX8_page_109 : decode cX8_page 109 = .ok (.aload_n 0, 1) := by decide +kernel
theorem dX8_page_110 : decode cX8_page 110 = .ok (.getfield 65, 3) := by decide +kernel
theorem dX8_page_113 : decode cX8_page 113 = .ok (.lload 6, 2) := by decide +kernel
theorem dX8_page_115 : decode cX8_page 115 = .ok (.l2i, 1) := by decide +kernel
theorem dX8_page_116 : decode cX8_page 116 = .ok (.iload 4, 2) := by decide +kernel
theorem dX8_page_118 : decode cX8_page 118 = .ok (.iadd, 1) := by decide +kernel
theorem dX8_page_119 : decode cX8_page 119 = .ok (.invokevirtual 170, 3) := by decide +kernel
theorem dX8_page_122 : decode cX8_page 122 = .ok (.goto 6, 3) := by decide +kernel
theorem dX8_page_125 : decode cX8_page 125 = .ok (.sipush (-5000), 3) := by decide +kernel
theorem dX8_page_128 : decode cX8_page 128 = .ok (.ireturn, 1) := by decide +kernel
theorem dX8_reader_0 : decode cX8_reader 0 = .ok (.aload_n 0, 1) := by decide +kernel
theorem dX8_reader_1 : decode cX8_reader 1 = .ok (.getfield 12, 3) := by decide +kernel
theorem dX8_reader_4 : decode cX8_reader 4 = .ok (.iload_n 1, 1) := by decide +kernel
theorem dX8_reader_5 : decode cX8_reader 5 = .ok (.invokevirtual 104, 3) := by decide +kernel
theorem dX8_reader_8 : decode cX8_reader 8 = .ok (.ifnonnull 10, 3) := by decide +kernel
theorem dX8_reader_11 : decode cX8_reader 11 = .ok (.aload_n 0, 1) := by decide +kernel
theorem dX8_reader_12 : decode cX8_reader 12 = .ok (.bipush (-2), 2) := by decide +kernel
theorem dX8_reader_14 : decode cX8_reader 14 = .ok (.invokevirtual 76, 3) := by decide +kernel
theorem dX8_reader_17 : decode cX8_reader 17 = .ok (.ireturn, 1) := by decide +kernel
theorem dX8_reader_18 : decode cX8_reader 18 = .ok (.aload_n 0, 1) := by decide +kernel
theorem dX8_reader_19 : decode cX8_reader 19 = .ok (.getfield 43, 3) := by decide +kernel
theorem dX8_reader_22 : decode cX8_reader 22 = .ok (.ifCond .lt 15, 3) := by decide +kernel
theorem dX8_reader_25 : decode cX8_reader 25 = .ok (.aload_n 0, 1) := by decide +kernel
theorem dX8_reader_26 : decode cX8_reader 26 = .ok (.getfield 43, 3) := by decide +kernel
theorem dX8_reader_29 : decode cX8_reader 29 = .ok (.aload_n 0, 1) := by decide +kernel
theorem dX8_reader_30 : decode cX8_reader 30 = .ok (.getfield 32, 3) := by decide +kernel
theorem dX8_reader_33 : decode cX8_reader 33 = .ok (.arraylength, 1) := by decide +kernel
theorem dX8_reader_34 : decode cX8_reader 34 = .ok (.if_icmp .lt 10, 3) := by decide +kernel
theorem dX8_reader_37 : decode cX8_reader 37 = .ok (.aload_n 0, 1) := by decide +kernel
theorem dX8_reader_38 : decode cX8_reader 38 = .ok (.bipush (-5), 2) := by decide +kernel
theorem dX8_reader_40 : decode cX8_reader 40 = .ok (.invokevirtual 76, 3) := by decide +kernel
theorem dX8_reader_43 : decode cX8_reader 43 = .ok (.ireturn, 1) := by decide +kernel
theorem dX8_reader_44 : decode cX8_reader 44 = .ok (.aload_n 0, 1) := by decide +kernel
theorem dX8_reader_45 : decode cX8_reader 45 = .ok (.getfield 43, 3) := by decide +kernel
theorem dX8_reader_48 : decode cX8_reader 48 = .ok (.istore_n 2, 1) := by decide +kernel
theorem dX8_reader_49 : decode cX8_reader 49 = .ok (.aload_n 0, 1) := by decide +kernel
theorem dX8_reader_50 : decode cX8_reader 50 = .ok (.getfield 32, 3) := by decide +kernel
theorem dX8_reader_53 : decode cX8_reader 53 = .ok (.iload_n 2, 1) := by decide +kernel
theorem dX8_reader_54 : decode cX8_reader 54 = .ok (.new 30, 3) := by decide +kernel
theorem dX8_reader_57 : decode cX8_reader 57 = .ok (.dup, 1) := by decide +kernel
theorem dX8_reader_58 : decode cX8_reader 58 = .ok (.iload_n 1, 1) := by decide +kernel
theorem dX8_reader_59 : decode cX8_reader 59 = .ok (.invokespecial 181, 3) := by decide +kernel
theorem dX8_reader_62 : decode cX8_reader 62 = .ok (.aastore, 1) := by decide +kernel
theorem dX8_reader_63 : decode cX8_reader 63 = .ok (.aload_n 0, 1) := by decide +kernel
theorem dX8_reader_64 : decode cX8_reader 64 = .ok (.iload_n 2, 1) := by decide +kernel
theorem dX8_reader_65 : decode cX8_reader 65 = .ok (.iconst 1, 1) := by decide +kernel
theorem dX8_reader_66 : decode cX8_reader 66 = .ok (.iadd, 1) := by decide +kernel
theorem dX8_reader_67 : decode cX8_reader 67 = .ok (.putfield 43, 3) := by decide +kernel
theorem dX8_reader_70 : decode cX8_reader 70 = .ok (.aload_n 0, 1) := by decide +kernel
theorem dX8_reader_71 : decode cX8_reader 71 = .ok (.iload_n 2, 1) := by decide +kernel
theorem dX8_reader_72 : decode cX8_reader 72 = .ok (.invokevirtual 101, 3) := by decide +kernel
theorem dX8_reader_75 : decode cX8_reader 75 = .ok (.ireturn, 1) := by decide +kernel
theorem dX8_send_0 : decode cX8_send 0 = .ok (.iconst 0, 1) := by decide +kernel
theorem dX8_send_1 : decode cX8_send 1 = .ok (.istore_n 1, 1) := by decide +kernel
theorem dX8_send_2 : decode cX8_send 2 = .ok (.iconst 0, 1) := by decide +kernel
theorem dX8_send_3 : decode cX8_send 3 = .ok (.istore_n 2, 1) := by decide +kernel
theorem dX8_send_4 : decode cX8_send 4 = .ok (.iload_n 2, 1) := by decide +kernel
theorem dX8_send_5 : decode cX8_send 5 = .ok (.aload_n 0, 1) := by decide +kernel
theorem dX8_send_6 : decode cX8_send 6 = .ok (.getfield 32, 3) := by decide +kernel
theorem dX8_send_9 : decode cX8_send 9 = .ok (.arraylength, 1) := by decide +kernel
theorem dX8_send_10 : decode cX8_send 10 = .ok (.if_icmp .ge 83, 3) := by decide +kernel
theorem dX8_send_13 : decode cX8_send 13 = .ok (.aload_n 0, 1) := by decide +kernel
theorem dX8_send_14 : decode cX8_send 14 = .ok (.getfield 32, 3) := by decide +kernel
theorem dX8_send_17 : decode cX8_send 17 = .ok (.iload_n 2, 1) := by decide +kernel
theorem dX8_send_18 : decode cX8_send 18 = .ok (.aaload, 1) := by decide +kernel
theorem dX8_send_19 : decode cX8_send 19 = .ok (.astore_n 3, 1) := by decide +kernel
theorem dX8_send_20 : decode cX8_send 20 = .ok (.aload_n 3, 1) := by decide +kernel
theorem dX8_send_21 : decode cX8_send 21 = .ok (.ifnonnull 6, 3) := by decide +kernel
theorem dX8_send_24 : decode cX8_send 24 = .ok (.goto 63, 3) := by decide +kernel
theorem dX8_send_27 : decode cX8_send 27 = .ok (.aload_n 0, 1) := by decide +kernel
theorem dX8_send_28 : decode cX8_send 28 = .ok (.getfield 65, 3) := by decide +kernel
theorem dX8_send_31 : decode cX8_send 31 = .ok (.aload_n 0, 1) := by decide +kernel
theorem dX8_send_32 : decode cX8_send 32 = .ok (.getfield 39, 3) := by decide +kernel
theorem dX8_send_35 : decode cX8_send 35 = .ok (.aload_n 0, 1) := by decide +kernel
theorem dX8_send_36 : decode cX8_send 36 = .ok (.getfield 12, 3) := by decide +kernel
theorem dX8_send_39 : decode cX8_send 39 = .ok (.aload_n 3, 1) := by decide +kernel
theorem dX8_send_40 : decode cX8_send 40 = .ok (.getfield 183, 3) := by decide +kernel
theorem dX8_send_43 : decode cX8_send 43 = .ok (.invokevirtual 165, 3) := by decide +kernel
theorem dX8_send_46 : decode cX8_send 46 = .ok (.aload_n 0, 1) := by decide +kernel
theorem dX8_send_47 : decode cX8_send 47 = .ok (.getfield 65, 3) := by decide +kernel
theorem dX8_send_50 : decode cX8_send 50 = .ok (.aload_n 3, 1) := by decide +kernel
theorem dX8_send_51 : decode cX8_send 51 = .ok (.getfield 186, 3) := by decide +kernel
theorem dX8_send_54 : decode cX8_send 54 = .ok (.invokevirtual 189, 3) := by decide +kernel
theorem dX8_send_57 : decode cX8_send 57 = .ok (.ifCond .ne 30, 3) := by decide +kernel
theorem dX8_send_60 : decode cX8_send 60 = .ok (.aload_n 3, 1) := by decide +kernel
theorem dX8_send_61 : decode cX8_send 61 = .ok (.getfield 186, 3) := by decide +kernel
theorem dX8_send_64 : decode cX8_send 64 = .ok (.aload_n 0, 1) := by decide +kernel
theorem dX8_send_65 : decode cX8_send 65 = .ok (.getfield 65, 3) := by decide +kernel
theorem dX8_send_68 : decode cX8_send 68 = .ok (.invokevirtual 193, 3) := by decide +kernel
theorem dX8_send_71 : decode cX8_send 71 = .ok (.iload_n 1, 1) := by decide +kernel
theorem dX8_send_72 : decode cX8_send 72 = .ok (.iconst 1, 1) := by decide +kernel
theorem dX8_send_73 : decode cX8_send 73 = .ok (.iload_n 2, 1) := by decide +kernel
theorem dX8_send_74 : decode cX8_send 74 = .ok (.ishl, 1) := by decide +kernel
theorem dX8_send_75 : decode cX8_send 75 = .ok (.ior, 1) := by decide +kernel
theorem dX8_send_76 : decode cX8_send 76 = .ok (.istore_n 1, 1) := by decide +kernel
theorem dX8_send_77 : decode cX8_send 77 = .ok (.aload_n 0, 1) := by decide +kernel
theorem dX8_send_78 : decode cX8_send 78 = .ok (.dup, 1) := by decide +kernel
theorem dX8_send_79 : decode cX8_send 79 = .ok (.getfield 47, 3) := by decide +kernel
theorem dX8_send_82 : decode cX8_send 82 = .ok (.iconst 1, 1) := by decide +kernel
theorem dX8_send_83 : decode cX8_send 83 = .ok (.iadd, 1) := by decide +kernel
theorem dX8_send_84 : decode cX8_send 84 = .ok (.putfield 47, 3) := by decide +kernel
theorem dX8_send_87 : decode cX8_send 87 = .ok (.iinc 2 1, 3) := by decide +kernel
theorem dX8_send_90 : decode cX8_send 90 = .ok (.goto (-86), 3) := by decide +kernel
theorem dX8_send_93 : decode cX8_send 93 = .ok (.iload_n 1, 1) := by decide +kernel
theorem dX8_send_94 : decode cX8_send 94 = .ok (.ireturn, 1) := by decide +kernel
theorem dX8_holds_0 : decode cX8_holds 0 = .ok (.aload_n 0, 1) := by decide +kernel
theorem dX8_holds_1 : decode cX8_holds 1 = .ok (.iload_n 1, 1) := by decide +kernel
theorem dX8_holds_2 : decode cX8_holds 2 = .ok (.invokevirtual 197, 3) := by decide +kernel
theorem dX8_holds_5 : decode cX8_holds 5 = .ok (.astore_n 3, 1) := by decide +kernel
theorem dX8_holds_6 : decode cX8_holds 6 = .ok (.aload_n 3, 1) := by decide +kernel
theorem dX8_holds_7 : decode cX8_holds 7 = .ok (.ifnonnull 7, 3) := by decide +kernel
theorem dX8_holds_10 : decode cX8_holds 10 = .ok (.sipush (-5000), 3) := by decide +kernel
theorem dX8_holds_13 : decode cX8_holds 13 = .ok (.ireturn, 1) := by decide +kernel
theorem dX8_holds_14 : decode cX8_holds 14 = .ok (.iload_n 2, 1) := by decide +kernel
theorem dX8_holds_15 : decode cX8_holds 15 = .ok (.iconst (-1), 1) := by decide +kernel
theorem dX8_holds_16 : decode cX8_holds 16 = .ok (.if_icmp .ne 13, 3) := by decide +kernel
theorem dX8_holds_19 : decode cX8_holds 19 = .ok (.aload_n 3, 1) := by decide +kernel
theorem dX8_holds_20 : decode cX8_holds 20 = .ok (.getfield 186, 3) := by decide +kernel
theorem dX8_holds_23 : decode cX8_holds 23 = .ok (.invokevirtual 169, 3) := by decide +kernel
theorem dX8_holds_26 : decode cX8_holds 26 = .ok (.goto 11, 3) := by decide +kernel
theorem dX8_holds_29 : decode cX8_holds 29 = .ok (.aload_n 3, 1) := by decide +kernel
theorem dX8_holds_30 : decode cX8_holds 30 = .ok (.getfield 186, 3) := by decide +kernel
theorem dX8_holds_33 : decode cX8_holds 33 = .ok (.iload_n 2, 1) := by decide +kernel
theorem dX8_holds_34 : decode cX8_holds 34 = .ok (.invokevirtual 170, 3) := by decide +kernel
theorem dX8_holds_37 : decode cX8_holds 37 = .ok (.ireturn, 1) := by decide +kernel
theorem dX8_same_0 : decode cX8_same 0 = .ok (.aload_n 0, 1) := by decide +kernel
theorem dX8_same_1 : decode cX8_same 1 = .ok (.iload_n 1, 1) := by decide +kernel
theorem dX8_same_2 : decode cX8_same 2 = .ok (.invokevirtual 197, 3) := by decide +kernel
theorem dX8_same_5 : decode cX8_same 5 = .ok (.astore_n 2, 1) := by decide +kernel
theorem dX8_same_6 : decode cX8_same 6 = .ok (.aload_n 2, 1) := by decide +kernel
theorem dX8_same_7 : decode cX8_same 7 = .ok (.ifnonnull 5, 3) := by decide +kernel
theorem dX8_same_10 : decode cX8_same 10 = .ok (.iconst (-1), 1) := by decide +kernel
theorem dX8_same_11 : decode cX8_same 11 = .ok (.ireturn, 1) := by decide +kernel
theorem dX8_same_12 : decode cX8_same 12 = .ok (.aload_n 0, 1) := by decide +kernel
theorem dX8_same_13 : decode cX8_same 13 = .ok (.getfield 65, 3) := by decide +kernel
theorem dX8_same_16 : decode cX8_same 16 = .ok (.aload_n 0, 1) := by decide +kernel
theorem dX8_same_17 : decode cX8_same 17 = .ok (.getfield 39, 3) := by decide +kernel
theorem dX8_same_20 : decode cX8_same 20 = .ok (.aload_n 0, 1) := by decide +kernel
theorem dX8_same_21 : decode cX8_same 21 = .ok (.getfield 12, 3) := by decide +kernel
theorem dX8_same_24 : decode cX8_same 24 = .ok (.aload_n 2, 1) := by decide +kernel
theorem dX8_same_25 : decode cX8_same 25 = .ok (.getfield 183, 3) := by decide +kernel
theorem dX8_same_28 : decode cX8_same 28 = .ok (.invokevirtual 165, 3) := by decide +kernel
theorem dX8_same_31 : decode cX8_same 31 = .ok (.aload_n 0, 1) := by decide +kernel
theorem dX8_same_32 : decode cX8_same 32 = .ok (.getfield 65, 3) := by decide +kernel
theorem dX8_same_35 : decode cX8_same 35 = .ok (.aload_n 2, 1) := by decide +kernel
theorem dX8_same_36 : decode cX8_same 36 = .ok (.getfield 186, 3) := by decide +kernel
theorem dX8_same_39 : decode cX8_same 39 = .ok (.invokevirtual 189, 3) := by decide +kernel
theorem dX8_same_42 : decode cX8_same 42 = .ok (.ifCond .eq 7, 3) := by decide +kernel
theorem dX8_same_45 : decode cX8_same 45 = .ok (.iconst 1, 1) := by decide +kernel
theorem dX8_same_46 : decode cX8_same 46 = .ok (.goto 4, 3) := by decide +kernel
theorem dX8_same_49 : decode cX8_same 49 = .ok (.iconst 0, 1) := by decide +kernel
theorem dX8_same_50 : decode cX8_same 50 = .ok (.ireturn, 1) := by decide +kernel
theorem dX8_edit_0 : decode cX8_edit 0 = .ok (.iload_n 3, 1) := by decide +kernel
theorem dX8_edit_1 : decode cX8_edit 1 = .ok (.invokestatic 72, 3) := by decide +kernel
theorem dX8_edit_4 : decode cX8_edit 4 = .ok (.ifCond .ne 9, 3) := by decide +kernel
theorem dX8_edit_7 : decode cX8_edit 7 = .ok (.aload_n 0, 1) := by decide +kernel
theorem dX8_edit_8 : decode cX8_edit 8 = .ok (.iconst (-1), 1) := by decide +kernel
theorem dX8_edit_9 : decode cX8_edit 9 = .ok (.invokevirtual 76, 3) := by decide +kernel
theorem dX8_edit_12 : decode cX8_edit 12 = .ok (.ireturn, 1) := by decide +kernel
theorem dX8_edit_13 : decode cX8_edit 13 = .ok (.aload_n 0, 1) := by decide +kernel
theorem dX8_edit_14 : decode cX8_edit 14 = .ok (.iload_n 1, 1) := by decide +kernel
theorem dX8_edit_15 : decode cX8_edit 15 = .ok (.invokevirtual 197, 3) := by decide +kernel
theorem dX8_edit_18 : decode cX8_edit 18 = .ok (.astore 4, 2) := by decide +kernel
theorem dX8_edit_20 : decode cX8_edit 20 = .ok (.aload 4, 2) := by decide +kernel
theorem dX8_edit_22 : decode cX8_edit 22 = .ok (.ifnonnull 10, 3) := by decide +kernel
theorem dX8_edit_25 : decode cX8_edit 25 = .ok (.aload_n 0, 1) := by decide +kernel
theorem dX8_edit_26 : decode cX8_edit 26 = .ok (.bipush (-2), 2) := by decide +kernel
theorem dX8_edit_28 : decode cX8_edit 28 = .ok (.invokevirtual 76, 3) := by decide +kernel
theorem dX8_edit_31 : decode cX8_edit 31 = .ok (.ireturn, 1) := by decide +kernel
theorem dX8_edit_32 : decode cX8_edit 32 = .ok (.aload 4, 2) := by decide +kernel
theorem dX8_edit_34 : decode cX8_edit 34 = .ok (.getfield 186, 3) := by decide +kernel
theorem dX8_edit_37 : decode cX8_edit 37 = .ok (.iload_n 2, 1) := by decide +kernel
theorem dX8_edit_38 : decode cX8_edit 38 = .ok (.invokevirtual 201, 3) := by decide +kernel
theorem dX8_edit_41 : decode cX8_edit 41 = .ok (.ifCond .eq 22, 3) := by decide +kernel
theorem dX8_edit_44 : decode cX8_edit 44 = .ok (.aload_n 0, 1) := by decide +kernel
theorem dX8_edit_45 : decode cX8_edit 45 = .ok (.getfield 12, 3) := by decide +kernel
theorem dX8_edit_48 : decode cX8_edit 48 = .ok (.aload 4, 2) := by decide +kernel
theorem dX8_edit_50 : decode cX8_edit 50 = .ok (.getfield 186, 3) := by decide +kernel
theorem dX8_edit_53 : decode cX8_edit 53 = .ok (.iload_n 2, 1) := by decide +kernel
theorem dX8_edit_54 : decode cX8_edit 54 = .ok (.invokevirtual 204, 3) := by decide +kernel
theorem dX8_edit_57 : decode cX8_edit 57 = .ok (.invokevirtual 104, 3) := by decide +kernel
theorem dX8_edit_60 : decode cX8_edit 60 = .ok (.goto 4, 3) := by decide +kernel
theorem dX8_edit_63 : decode cX8_edit 63 = .ok (.aconst_null, 1) := by decide +kernel
theorem dX8_edit_64 : decode cX8_edit 64 = .ok (.astore 5, 2) := by decide +kernel
theorem dX8_edit_66 : decode cX8_edit 66 = .ok (.aload 5, 2) := by decide +kernel
theorem dX8_edit_68 : decode cX8_edit 68 = .ok (.ifnull 20, 3) := by decide +kernel
theorem dX8_edit_71 : decode cX8_edit 71 = .ok (.aload 5, 2) := by decide +kernel
theorem dX8_edit_73 : decode cX8_edit 73 = .ok (.getfield 111, 3) := by decide +kernel
theorem dX8_edit_76 : decode cX8_edit 76 = .ok (.aload 4, 2) := by decide +kernel
theorem dX8_edit_78 : decode cX8_edit 78 = .ok (.getfield 186, 3) := by decide +kernel
theorem dX8_edit_81 : decode cX8_edit 81 = .ok (.iload_n 2, 1) := by decide +kernel
theorem dX8_edit_82 : decode cX8_edit 82 = .ok (.invokevirtual 170, 3) := by decide +kernel
theorem dX8_edit_85 : decode cX8_edit 85 = .ok (.if_icmp .eq 10, 3) := by decide +kernel
theorem dX8_edit_88 : decode cX8_edit 88 = .ok (.aload_n 0, 1) := by decide +kernel
theorem dX8_edit_89 : decode cX8_edit 89 = .ok (.bipush (-3), 2) := by decide +kernel
theorem dX8_edit_91 : decode cX8_edit 91 = .ok (.invokevirtual 76, 3) := by decide +kernel
theorem dX8_edit_94 : decode cX8_edit 94 = .ok (.ireturn, 1) := by decide +kernel
theorem dX8_edit_95 : decode cX8_edit 95 = .ok (.aload_n 0, 1) := by decide +kernel
theorem dX8_edit_96 : decode cX8_edit 96 = .ok (.getfield 19, 3) := by decide +kernel
theorem dX8_edit_99 : decode cX8_edit 99 = .ok (.invokevirtual 87, 3) := by decide +kernel
theorem dX8_edit_102 : decode cX8_edit 102 = .ok (.ifCond .eq 10, 3) := by decide +kernel
theorem dX8_edit_105 : decode cX8_edit 105 = .ok (.aload_n 0, 1) := by decide +kernel
theorem dX8_edit_106 : decode cX8_edit 106 = .ok (.bipush (-5), 2) := by decide +kernel
theorem dX8_edit_108 : decode cX8_edit 108 = .ok (.invokevirtual 76, 3) := by decide +kernel
theorem dX8_edit_111 : decode cX8_edit 111 = .ok (.ireturn, 1) := by decide +kernel
theorem dX8_edit_112 : decode cX8_edit 112 = .ok (.aload_n 0, 1) := by decide +kernel
theorem dX8_edit_113 : decode cX8_edit 113 = .ok (.aload 5, 2) := by decide +kernel
theorem dX8_edit_115 : decode cX8_edit 115 = .ok (.iload_n 3, 1) := by decide +kernel
theorem dX8_edit_116 : decode cX8_edit 116 = .ok (.invokevirtual 108, 3) := by decide +kernel
theorem dX8_edit_119 : decode cX8_edit 119 = .ok (.invokevirtual 97, 3) := by decide +kernel
theorem dX8_edit_122 : decode cX8_edit 122 = .ok (.aload 4, 2) := by decide +kernel
theorem dX8_edit_124 : decode cX8_edit 124 = .ok (.getfield 186, 3) := by decide +kernel
theorem dX8_edit_127 : decode cX8_edit 127 = .ok (.iload_n 2, 1) := by decide +kernel
theorem dX8_edit_128 : decode cX8_edit 128 = .ok (.iload_n 3, 1) := by decide +kernel
theorem dX8_edit_129 : decode cX8_edit 129 = .ok (.invokevirtual 207, 3) := by decide +kernel
theorem dX8_edit_132 : decode cX8_edit 132 = .ok (.aload_n 0, 1) := by decide +kernel
theorem dX8_edit_133 : decode cX8_edit 133 = .ok (.aload 5, 2) := by decide +kernel
theorem dX8_edit_135 : decode cX8_edit 135 = .ok (.getfield 211, 3) := by decide +kernel
theorem dX8_edit_138 : decode cX8_edit 138 = .ok (.invokevirtual 101, 3) := by decide +kernel
theorem dX8_edit_141 : decode cX8_edit 141 = .ok (.ireturn, 1) := by decide +kernel
theorem dX8_asOf_0 : decode cX8_asOf 0 = .ok (.aload_n 0, 1) := by decide +kernel
theorem dX8_asOf_1 : decode cX8_asOf 1 = .ok (.getfield 59, 3) := by decide +kernel
theorem dX8_asOf_4 : decode cX8_asOf 4 = .ok (.invokevirtual 214, 3) := by decide +kernel
theorem dX8_asOf_7 : decode cX8_asOf 7 = .ok (.iload_n 1, 1) := by decide +kernel
theorem dX8_asOf_8 : decode cX8_asOf 8 = .ok (.ifCond .lt 26, 3) := by decide +kernel
theorem dX8_asOf_11 : decode cX8_asOf 11 = .ok (.iload_n 1, 1) := by decide +kernel
theorem dX8_asOf_12 : decode cX8_asOf 12 = .ok (.aload_n 0, 1) := by decide +kernel
theorem dX8_asOf_13 : decode cX8_asOf 13 = .ok (.getfield 19, 3) := by decide +kernel
theorem dX8_asOf_16 : decode cX8_asOf 16 = .ok (.invokevirtual 215, 3) := by decide +kernel
theorem dX8_asOf_19 : decode cX8_asOf 19 = .ok (.if_icmp .gt 15, 3) := by decide +kernel
theorem dX8_asOf_22 : decode cX8_asOf 22 = .ok (.aload_n 0, 1) := by decide +kernel
theorem dX8_asOf_23 : decode cX8_asOf 23 = .ok (.getfield 19, 3) := by decide +kernel
theorem dX8_asOf_26 : decode cX8_asOf 26 = .ok (.iload_n 1, 1) := by decide +kernel
theorem dX8_asOf_27 : decode cX8_asOf 27 = .ok (.aload_n 0, 1) := by decide +kernel
theorem dX8_asOf_28 : decode cX8_asOf 28 = .ok (.getfield 59, 3) := by decide +kernel
theorem dX8_asOf_31 : decode cX8_asOf 31 = .ok (.invokevirtual 216, 3) := by decide +kernel
theorem dX8_asOf_34 : decode cX8_asOf 34 = .ok (.aload_n 0, 1) := by decide +kernel
theorem dX8_asOf_35 : decode cX8_asOf 35 = .ok (.getfield 65, 3) := by decide +kernel
theorem dX8_asOf_38 : decode cX8_asOf 38 = .ok (.aload_n 0, 1) := by decide +kernel
theorem dX8_asOf_39 : decode cX8_asOf 39 = .ok (.getfield 39, 3) := by decide +kernel
theorem dX8_asOf_42 : decode cX8_asOf 42 = .ok (.aload_n 0, 1) := by decide +kernel
theorem dX8_asOf_43 : decode cX8_asOf 43 = .ok (.getfield 59, 3) := by decide +kernel
theorem dX8_asOf_46 : decode cX8_asOf 46 = .ok (.iload_n 2, 1) := by decide +kernel
theorem dX8_asOf_47 : decode cX8_asOf 47 = .ok (.invokevirtual 165, 3) := by decide +kernel
theorem dX8_asOf_50 : decode cX8_asOf 50 = .ok (.iload_n 3, 1) := by decide +kernel
theorem dX8_asOf_51 : decode cX8_asOf 51 = .ok (.iconst (-1), 1) := by decide +kernel
theorem dX8_asOf_52 : decode cX8_asOf 52 = .ok (.if_icmp .ne 13, 3) := by decide +kernel
theorem dX8_asOf_55 : decode cX8_asOf 55 = .ok (.aload_n 0, 1) := by decide +kernel
theorem dX8_asOf_56 : decode cX8_asOf 56 = .ok (.getfield 65, 3) := by decide +kernel
theorem dX8_asOf_59 : decode cX8_asOf 59 = .ok (.invokevirtual 169, 3) := by decide +kernel
theorem dX8_asOf_62 : decode cX8_asOf 62 = .ok (.goto 11, 3) := by decide +kernel
theorem dX8_asOf_65 : decode cX8_asOf 65 = .ok (.aload_n 0, 1) := by decide +kernel
theorem dX8_asOf_66 : decode cX8_asOf 66 = .ok (.getfield 65, 3) := by decide +kernel
theorem dX8_asOf_69 : decode cX8_asOf 69 = .ok (.iload_n 3, 1) := by decide +kernel
theorem dX8_asOf_70 : decode cX8_asOf 70 = .ok (.invokevirtual 170, 3) := by decide +kernel
theorem dX8_asOf_73 : decode cX8_asOf 73 = .ok (.ireturn, 1) := by decide +kernel
theorem dX8_touched_0 : decode cX8_touched 0 = .ok (.aload_n 0, 1) := by decide +kernel
theorem dX8_touched_1 : decode cX8_touched 1 = .ok (.getfield 12, 3) := by decide +kernel
theorem dX8_touched_4 : decode cX8_touched 4 = .ok (.iload_n 1, 1) := by decide +kernel
theorem dX8_touched_5 : decode cX8_touched 5 = .ok (.invokevirtual 104, 3) := by decide +kernel
theorem dX8_touched_8 : decode cX8_touched 8 = .ok (.astore_n 3, 1) := by decide +kernel
theorem dX8_touched_9 : decode cX8_touched 9 = .ok (.aload_n 3, 1) := by decide +kernel
theorem dX8_touched_10 : decode cX8_touched 10 = .ok (.ifnull 10, 3) := by decide +kernel
theorem dX8_touched_13 : decode cX8_touched 13 = .ok (.iload_n 2, 1) := by decide +kernel
theorem dX8_touched_14 : decode cX8_touched 14 = .ok (.invokestatic 72, 3) := by decide +kernel
theorem dX8_touched_17 : decode cX8_touched 17 = .ok (.ifCond .ne 5, 3) := by decide +kernel
theorem dX8_touched_20 : decode cX8_touched 20 = .ok (.iconst 0, 1) := by decide +kernel
theorem dX8_touched_21 : decode cX8_touched 21 = .ok (.ireturn, 1) := by decide +kernel
theorem dX8_touched_22 : decode cX8_touched 22 = .ok (.aload_n 0, 1) := by decide +kernel
theorem dX8_touched_23 : decode cX8_touched 23 = .ok (.getfield 59, 3) := by decide +kernel
theorem dX8_touched_26 : decode cX8_touched 26 = .ok (.aload_n 0, 1) := by decide +kernel
theorem dX8_touched_27 : decode cX8_touched 27 = .ok (.getfield 12, 3) := by decide +kernel
theorem dX8_touched_30 : decode cX8_touched 30 = .ok (.invokevirtual 220, 3) := by decide +kernel
theorem dX8_touched_33 : decode cX8_touched 33 = .ok (.aload_n 0, 1) := by decide +kernel
theorem dX8_touched_34 : decode cX8_touched 34 = .ok (.getfield 59, 3) := by decide +kernel
theorem dX8_touched_37 : decode cX8_touched 37 = .ok (.aload_n 3, 1) := by decide +kernel
theorem dX8_touched_38 : decode cX8_touched 38 = .ok (.iload_n 2, 1) := by decide +kernel
theorem dX8_touched_39 : decode cX8_touched 39 = .ok (.invokevirtual 108, 3) := by decide +kernel
theorem dX8_touched_42 : decode cX8_touched 42 = .ok (.invokevirtual 223, 3) := by decide +kernel
theorem dX8_touched_45 : decode cX8_touched 45 = .ok (.iconst 0, 1) := by decide +kernel
theorem dX8_touched_46 : decode cX8_touched 46 = .ok (.istore 4, 2) := by decide +kernel
theorem dX8_touched_48 : decode cX8_touched 48 = .ok (.iconst 0, 1) := by decide +kernel
theorem dX8_touched_49 : decode cX8_touched 49 = .ok (.istore 5, 2) := by decide +kernel
theorem dX8_touched_51 : decode cX8_touched 51 = .ok (.iload 5, 2) := by decide +kernel
theorem dX8_touched_53 : decode cX8_touched 53 = .ok (.aload_n 0, 1) := by decide +kernel
theorem dX8_touched_54 : decode cX8_touched 54 = .ok (.getfield 32, 3) := by decide +kernel
theorem dX8_touched_57 : decode cX8_touched 57 = .ok (.arraylength, 1) := by decide +kernel
theorem dX8_touched_58 : decode cX8_touched 58 = .ok (.if_icmp .ge 44, 3) := by decide +kernel
theorem dX8_touched_61 : decode cX8_touched 61 = .ok (.aload_n 0, 1) := by decide +kernel
theorem dX8_touched_62 : decode cX8_touched 62 = .ok (.getfield 32, 3) := by decide +kernel
theorem dX8_touched_65 : decode cX8_touched 65 = .ok (.iload 5, 2) := by decide +kernel
theorem dX8_touched_67 : decode cX8_touched 67 = .ok (.aaload, 1) := by decide +kernel
theorem dX8_touched_68 : decode cX8_touched 68 = .ok (.astore 6, 2) := by decide +kernel
theorem dX8_touched_70 : decode cX8_touched 70 = .ok (.aload 6, 2) := by decide +kernel
theorem dX8_touched_72 : decode cX8_touched 72 = .ok (.ifnull 24, 3) := by decide +kernel
theorem dX8_touched_75 : decode cX8_touched 75 = .ok (.aload_n 0, 1) := by decide +kernel
theorem dX8_touched_76 : decode cX8_touched 76 = .ok (.aload 6, 2) := by decide +kernel
theorem dX8_touched_78 : decode cX8_touched 78 = .ok (.getfield 183, 3) := by decide +kernel
theorem dX8_touched_81 : decode cX8_touched 81 = .ok (.invokevirtual 225, 3) := by decide +kernel
theorem dX8_touched_84 : decode cX8_touched 84 = .ok (.ifCond .eq 12, 3) := by decide +kernel
theorem dX8_touched_87 : decode cX8_touched 87 = .ok (.iload 4, 2) := by decide +kernel
theorem dX8_touched_89 : decode cX8_touched 89 = .ok (.iconst 1, 1) := by decide +kernel
theorem dX8_touched_90 : decode cX8_touched 90 = .ok (.iload 5, 2) := by decide +kernel
theorem dX8_touched_92 : decode cX8_touched 92 = .ok (.ishl, 1) := by decide +kernel
theorem dX8_touched_93 : decode cX8_touched 93 = .ok (.ior, 1) := by decide +kernel
theorem dX8_touched_94 : decode cX8_touched 94 = .ok (.istore 4, 2) := by decide +kernel
theorem dX8_touched_96 : decode cX8_touched 96 = .ok (.iinc 5 1, 3) := by decide +kernel
theorem dX8_touched_99 : decode cX8_touched 99 = .ok (.goto (-48), 3) := by decide +kernel
theorem dX8_touched_102 : decode cX8_touched 102 = .ok (.iload 4, 2) := by decide +kernel
theorem dX8_touched_104 : decode cX8_touched 104 = .ok (.ireturn, 1) := by decide +kernel
theorem dX8_count_0 : decode cX8_count 0 = .ok (.iload_n 1, 1) := by decide +kernel
theorem dX8_count_1 : decode cX8_count 1 = .ok (.tableswitch 93 0 6 #[43, 51, 59, 67, 72, 80, 88], 43) := by decide +kernel
theorem dX8_count_44 : decode cX8_count 44 = .ok (.aload_n 0, 1) := by decide +kernel
theorem dX8_count_45 : decode cX8_count 45 = .ok (.getfield 12, 3) := by decide +kernel
theorem dX8_count_48 : decode cX8_count 48 = .ok (.invokevirtual 228, 3) := by decide +kernel
theorem dX8_count_51 : decode cX8_count 51 = .ok (.ireturn, 1) := by decide +kernel
theorem dX8_count_52 : decode cX8_count 52 = .ok (.aload_n 0, 1) := by decide +kernel
theorem dX8_count_53 : decode cX8_count 53 = .ok (.getfield 12, 3) := by decide +kernel
theorem dX8_count_56 : decode cX8_count 56 = .ok (.invokevirtual 88, 3) := by decide +kernel
theorem dX8_count_59 : decode cX8_count 59 = .ok (.ireturn, 1) := by decide +kernel
theorem dX8_count_60 : decode cX8_count 60 = .ok (.aload_n 0, 1) := by decide +kernel
theorem dX8_count_61 : decode cX8_count 61 = .ok (.getfield 39, 3) := by decide +kernel
theorem dX8_count_64 : decode cX8_count 64 = .ok (.invokevirtual 162, 3) := by decide +kernel
theorem dX8_count_67 : decode cX8_count 67 = .ok (.ireturn, 1) := by decide +kernel
theorem dX8_count_68 : decode cX8_count 68 = .ok (.aload_n 0, 1) := by decide +kernel
theorem dX8_count_69 : decode cX8_count 69 = .ok (.getfield 43, 3) := by decide +kernel
theorem dX8_count_72 : decode cX8_count 72 = .ok (.ireturn, 1) := by decide +kernel
theorem dX8_count_73 : decode cX8_count 73 = .ok (.aload_n 0, 1) := by decide +kernel
theorem dX8_count_74 : decode cX8_count 74 = .ok (.getfield 19, 3) := by decide +kernel
theorem dX8_count_77 : decode cX8_count 77 = .ok (.invokevirtual 215, 3) := by decide +kernel
theorem dX8_count_80 : decode cX8_count 80 = .ok (.ireturn, 1) := by decide +kernel
theorem dX8_count_81 : decode cX8_count 81 = .ok (.aload_n 0, 1) := by decide +kernel
theorem dX8_count_82 : decode cX8_count 82 = .ok (.getfield 26, 3) := by decide +kernel
theorem dX8_count_85 : decode cX8_count 85 = .ok (.invokevirtual 138, 3) := by decide +kernel
theorem dX8_count_88 : decode cX8_count 88 = .ok (.ireturn, 1) := by decide +kernel
theorem dX8_count_89 : decode cX8_count 89 = .ok (.aload_n 0, 1) := by decide +kernel
theorem dX8_count_90 : decode cX8_count 90 = .ok (.getfield 47, 3) := by decide +kernel
theorem dX8_count_93 : decode cX8_count 93 = .ok (.ireturn, 1) := by decide +kernel
theorem dX8_count_94 : decode cX8_count 94 = .ok (.iconst (-1), 1) := by decide +kernel
theorem dX8_count_95 : decode cX8_count 95 = .ok (.ireturn, 1) := by decide +kernel
theorem dX8_status_0 : decode cX8_status 0 = .ok (.aload_n 0, 1) := by decide +kernel
theorem dX8_status_1 : decode cX8_status 1 = .ok (.getfield 53, 3) := by decide +kernel
theorem dX8_status_4 : decode cX8_status 4 = .ok (.ireturn, 1) := by decide +kernel
theorem dX8_refused_0 : decode cX8_refused 0 = .ok (.aload_n 0, 1) := by decide +kernel
theorem dX8_refused_1 : decode cX8_refused 1 = .ok (.iload_n 1, 1) := by decide +kernel
theorem dX8_refused_2 : decode cX8_refused 2 = .ok (.putfield 53, 3) := by decide +kernel
theorem dX8_refused_5 : decode cX8_refused 5 = .ok (.iload_n 1, 1) := by decide +kernel
theorem dX8_refused_6 : decode cX8_refused 6 = .ok (.ireturn, 1) := by decide +kernel
theorem dX8_answered_0 : decode cX8_answered 0 = .ok (.aload_n 0, 1) := by decide +kernel
theorem dX8_answered_1 : decode cX8_answered 1 = .ok (.iconst 0, 1) := by decide +kernel
theorem dX8_answered_2 : decode cX8_answered 2 = .ok (.putfield 53, 3) := by decide +kernel
theorem dX8_answered_5 : decode cX8_answered 5 = .ok (.iload_n 1, 1) := by decide +kernel
theorem dX8_answered_6 : decode cX8_answered 6 = .ok (.ireturn, 1) := by decide +kernel
theorem dX8_isValue_0 : decode cX8_isValue 0 = .ok (.iload_n 0, 1) := by decide +kernel
theorem dX8_isValue_1 : decode cX8_isValue 1 = .ok (.sipush (-1000), 3) := by decide +kernel
theorem dX8_isValue_4 : decode cX8_isValue 4 = .ok (.if_icmp .lt 14, 3) := by decide +kernel
theorem dX8_isValue_7 : decode cX8_isValue 7 = .ok (.iload_n 0, 1) := by decide +kernel
theorem dX8_isValue_8 : decode cX8_isValue 8 = .ok (.sipush 1000, 3) := by decide +kernel
theorem dX8_isValue_11 : decode cX8_isValue 11 = .ok (.if_icmp .gt 7, 3) := by decide +kernel
theorem dX8_isValue_14 : decode cX8_isValue 14 = .ok (.iconst 1, 1) := by decide +kernel
theorem dX8_isValue_15 : decode cX8_isValue 15 = .ok (.goto 4, 3) := by decide +kernel
theorem dX8_isValue_18 : decode cX8_isValue 18 = .ok (.iconst 0, 1) := by decide +kernel
theorem dX8_isValue_19 : decode cX8_isValue 19 = .ok (.ireturn, 1) := by decide +kernel
theorem dX8_canBeReferredTo_0 : decode cX8_canBeReferredTo 0 = .ok (.iload_n 1, 1) := by decide +kernel
theorem dX8_canBeReferredTo_1 : decode cX8_canBeReferredTo 1 = .ok (.iconst (-1), 1) := by decide +kernel
theorem dX8_canBeReferredTo_2 : decode cX8_canBeReferredTo 2 = .ok (.if_icmp .eq 14, 3) := by decide +kernel
theorem dX8_canBeReferredTo_5 : decode cX8_canBeReferredTo 5 = .ok (.aload_n 0, 1) := by decide +kernel
theorem dX8_canBeReferredTo_6 : decode cX8_canBeReferredTo 6 = .ok (.getfield 12, 3) := by decide +kernel
theorem dX8_canBeReferredTo_9 : decode cX8_canBeReferredTo 9 = .ok (.iload_n 1, 1) := by decide +kernel
theorem dX8_canBeReferredTo_10 : decode cX8_canBeReferredTo 10 = .ok (.invokevirtual 104, 3) := by decide +kernel
theorem dX8_canBeReferredTo_13 : decode cX8_canBeReferredTo 13 = .ok (.ifnull 7, 3) := by decide +kernel
theorem dX8_canBeReferredTo_16 : decode cX8_canBeReferredTo 16 = .ok (.iconst 1, 1) := by decide +kernel
theorem dX8_canBeReferredTo_17 : decode cX8_canBeReferredTo 17 = .ok (.goto 4, 3) := by decide +kernel
theorem dX8_canBeReferredTo_20 : decode cX8_canBeReferredTo 20 = .ok (.iconst 0, 1) := by decide +kernel
theorem dX8_canBeReferredTo_21 : decode cX8_canBeReferredTo 21 = .ok (.ireturn, 1) := by decide +kernel
theorem dX8_tell_0 : decode cX8_tell 0 = .ok (.aload_n 0, 1) := by decide +kernel
theorem dX8_tell_1 : decode cX8_tell 1 = .ok (.getfield 12, 3) := by decide +kernel
theorem dX8_tell_4 : decode cX8_tell 4 = .ok (.aload_n 1, 1) := by decide +kernel
theorem dX8_tell_5 : decode cX8_tell 5 = .ok (.invokevirtual 223, 3) := by decide +kernel
theorem dX8_tell_8 : decode cX8_tell 8 = .ok (.aload_n 0, 1) := by decide +kernel
theorem dX8_tell_9 : decode cX8_tell 9 = .ok (.getfield 19, 3) := by decide +kernel
theorem dX8_tell_12 : decode cX8_tell 12 = .ok (.aload_n 1, 1) := by decide +kernel
theorem dX8_tell_13 : decode cX8_tell 13 = .ok (.invokevirtual 231, 3) := by decide +kernel
theorem dX8_tell_16 : decode cX8_tell 16 = .ok (.return_, 1) := by decide +kernel
theorem dX8_readerAt_0 : decode cX8_readerAt 0 = .ok (.iload_n 1, 1) := by decide +kernel
theorem dX8_readerAt_1 : decode cX8_readerAt 1 = .ok (.ifCond .lt 21, 3) := by decide +kernel
theorem dX8_readerAt_4 : decode cX8_readerAt 4 = .ok (.iload_n 1, 1) := by decide +kernel
theorem dX8_readerAt_5 : decode cX8_readerAt 5 = .ok (.aload_n 0, 1) := by decide +kernel
theorem dX8_readerAt_6 : decode cX8_readerAt 6 = .ok (.getfield 32, 3) := by decide +kernel
theorem dX8_readerAt_9 : decode cX8_readerAt 9 = .ok (.arraylength, 1) := by decide +kernel
theorem dX8_readerAt_10 : decode cX8_readerAt 10 = .ok (.if_icmp .ge 12, 3) := by decide +kernel
theorem dX8_readerAt_13 : decode cX8_readerAt 13 = .ok (.aload_n 0, 1) := by decide +kernel
theorem dX8_readerAt_14 : decode cX8_readerAt 14 = .ok (.getfield 32, 3) := by decide +kernel
theorem dX8_readerAt_17 : decode cX8_readerAt 17 = .ok (.iload_n 1, 1) := by decide +kernel
theorem dX8_readerAt_18 : decode cX8_readerAt 18 = .ok (.aaload, 1) := by decide +kernel
theorem dX8_readerAt_19 : decode cX8_readerAt 19 = .ok (.goto 4, 3) := by decide +kernel
theorem dX8_readerAt_22 : decode cX8_readerAt 22 = .ok (.aconst_null, 1) := by decide +kernel
theorem dX8_readerAt_23 : decode cX8_readerAt 23 = .ok (.areturn, 1) := by decide +kernel
theorem dX8_isOtherwiseThen_0 : decode cX8_isOtherwiseThen 0 = .ok (.aload_n 0, 1) := by decide +kernel
theorem dX8_isOtherwiseThen_1 : decode cX8_isOtherwiseThen 1 = .ok (.getfield 65, 3) := by decide +kernel
theorem dX8_isOtherwiseThen_4 : decode cX8_isOtherwiseThen 4 = .ok (.aload_n 0, 1) := by decide +kernel
theorem dX8_isOtherwiseThen_5 : decode cX8_isOtherwiseThen 5 = .ok (.getfield 39, 3) := by decide +kernel
theorem dX8_isOtherwiseThen_8 : decode cX8_isOtherwiseThen 8 = .ok (.aload_n 0, 1) := by decide +kernel
theorem dX8_isOtherwiseThen_9 : decode cX8_isOtherwiseThen 9 = .ok (.getfield 12, 3) := by decide +kernel
theorem dX8_isOtherwiseThen_12 : decode cX8_isOtherwiseThen 12 = .ok (.iload_n 1, 1) := by decide +kernel
theorem dX8_isOtherwiseThen_13 : decode cX8_isOtherwiseThen 13 = .ok (.invokevirtual 165, 3) := by decide +kernel
theorem dX8_isOtherwiseThen_16 : decode cX8_isOtherwiseThen 16 = .ok (.aload_n 0, 1) := by decide +kernel
theorem dX8_isOtherwiseThen_17 : decode cX8_isOtherwiseThen 17 = .ok (.getfield 69, 3) := by decide +kernel
theorem dX8_isOtherwiseThen_20 : decode cX8_isOtherwiseThen 20 = .ok (.aload_n 0, 1) := by decide +kernel
theorem dX8_isOtherwiseThen_21 : decode cX8_isOtherwiseThen 21 = .ok (.getfield 39, 3) := by decide +kernel
theorem dX8_isOtherwiseThen_24 : decode cX8_isOtherwiseThen 24 = .ok (.aload_n 0, 1) := by decide +kernel
theorem dX8_isOtherwiseThen_25 : decode cX8_isOtherwiseThen 25 = .ok (.getfield 59, 3) := by decide +kernel
theorem dX8_isOtherwiseThen_28 : decode cX8_isOtherwiseThen 28 = .ok (.iload_n 1, 1) := by decide +kernel
theorem dX8_isOtherwiseThen_29 : decode cX8_isOtherwiseThen 29 = .ok (.invokevirtual 165, 3) := by decide +kernel
theorem dX8_isOtherwiseThen_32 : decode cX8_isOtherwiseThen 32 = .ok (.aload_n 0, 1) := by decide +kernel
theorem dX8_isOtherwiseThen_33 : decode cX8_isOtherwiseThen 33 = .ok (.getfield 65, 3) := by decide +kernel
theorem dX8_isOtherwiseThen_36 : decode cX8_isOtherwiseThen 36 = .ok (.aload_n 0, 1) := by decide +kernel
theorem dX8_isOtherwiseThen_37 : decode cX8_isOtherwiseThen 37 = .ok (.getfield 69, 3) := by decide +kernel
theorem dX8_isOtherwiseThen_40 : decode cX8_isOtherwiseThen 40 = .ok (.invokevirtual 189, 3) := by decide +kernel
theorem dX8_isOtherwiseThen_43 : decode cX8_isOtherwiseThen 43 = .ok (.ifCond .ne 7, 3) := by decide +kernel
theorem dX8_isOtherwiseThen_46 : decode cX8_isOtherwiseThen 46 = .ok (.iconst 1, 1) := by decide +kernel
theorem dX8_isOtherwiseThen_47 : decode cX8_isOtherwiseThen 47 = .ok (.goto 4, 3) := by decide +kernel
theorem dX8_isOtherwiseThen_50 : decode cX8_isOtherwiseThen 50 = .ok (.iconst 0, 1) := by decide +kernel
theorem dX8_isOtherwiseThen_51 : decode cX8_isOtherwiseThen 51 = .ok (.ireturn, 1) := by decide +kernel
end
section
theorem dX9_init_0 : decode cX9_init 0 = .ok (.aload_n 0, 1) := by decide +kernel
theorem dX9_init_1 : decode cX9_init 1 = .ok (.invokespecial 1, 3) := by decide +kernel
theorem dX9_init_4 : decode cX9_init 4 = .ok (.aload_n 0, 1) := by decide +kernel
theorem dX9_init_5 : decode cX9_init 5 = .ok (.sipush 300, 3) := by decide +kernel
theorem dX9_init_8 : decode cX9_init 8 = .ok (.newarray .int, 2) := by decide +kernel
theorem dX9_init_10 : decode cX9_init 10 = .ok (.putfield 7, 3) := by decide +kernel
theorem dX9_init_13 : decode cX9_init 13 = .ok (.aload_n 0, 1) := by decide +kernel
theorem dX9_init_14 : decode cX9_init 14 = .ok (.sipush 300, 3) := by decide +kernel
theorem dX9_init_17 : decode cX9_init 17 = .ok (.newarray .int, 2) := by decide +kernel
theorem dX9_init_19 : decode cX9_init 19 = .ok (.putfield 13, 3) := by decide +kernel
theorem dX9_init_22 : decode cX9_init 22 = .ok (.aload_n 0, 1) := by decide +kernel
theorem dX9_init_23 : decode cX9_init 23 = .ok (.sipush 300, 3) := by decide +kernel
theorem dX9_init_26 : decode cX9_init 26 = .ok (.newarray .int, 2) := by decide +kernel
theorem dX9_init_28 : decode cX9_init 28 = .ok (.putfield 16, 3) := by decide +kernel
theorem dX9_init_31 : decode cX9_init 31 = .ok (.aload_n 0, 1) := by decide +kernel
theorem dX9_init_32 : decode cX9_init 32 = .ok (.sipush 300, 3) := by decide +kernel
theorem dX9_init_35 : decode cX9_init 35 = .ok (.newarray .int, 2) := by decide +kernel
theorem dX9_init_37 : decode cX9_init 37 = .ok (.putfield 19, 3) := by decide +kernel
theorem dX9_init_40 : decode cX9_init 40 = .ok (.aload_n 0, 1) := by decide +kernel
theorem dX9_init_41 : decode cX9_init 41 = .ok (.sipush 300, 3) := by decide +kernel
theorem dX9_init_44 : decode cX9_init 44 = .ok (.newarray .int, 2) := by decide +kernel
theorem dX9_init_46 : decode cX9_init 46 = .ok (.putfield 22, 3) := by decide +kernel
theorem dX9_init_49 : decode cX9_init 49 = .ok (.aload_n 0, 1) := by decide +kernel
theorem dX9_init_50 : decode cX9_init 50 = .ok (.sipush 300, 3) := by decide +kernel
theorem dX9_init_53 : decode cX9_init 53 = .ok (.newarray .int, 2) := by decide +kernel
theorem dX9_init_55 : decode cX9_init 55 = .ok (.putfield 25, 3) := by decide +kernel
theorem dX9_init_58 : decode cX9_init 58 = .ok (.aload_n 0, 1) := by decide +kernel
theorem dX9_init_59 : decode cX9_init 59 = .ok (.bipush 60, 2) := by decide +kernel
theorem dX9_init_61 : decode cX9_init 61 = .ok (.newarray .int, 2) := by decide +kernel
theorem dX9_init_63 : decode cX9_init 63 = .ok (.putfield 28, 3) := by decide +kernel
theorem dX9_init_66 : decode cX9_init 66 = .ok (.aload_n 0, 1) := by decide +kernel
theorem dX9_init_67 : decode cX9_init 67 = .ok (.bipush 60, 2) := by decide +kernel
theorem dX9_init_69 : decode cX9_init 69 = .ok (.newarray .int, 2) := by decide +kernel
theorem dX9_init_71 : decode cX9_init 71 = .ok (.putfield 31, 3) := by decide +kernel
theorem dX9_init_74 : decode cX9_init 74 = .ok (.aload_n 0, 1) := by decide +kernel
theorem dX9_init_75 : decode cX9_init 75 = .ok (.bipush 120, 2) := by decide +kernel
theorem dX9_init_77 : decode cX9_init 77 = .ok (.newarray .int, 2) := by decide +kernel
theorem dX9_init_79 : decode cX9_init 79 = .ok (.putfield 34, 3) := by decide +kernel
theorem dX9_init_82 : decode cX9_init 82 = .ok (.aload_n 0, 1) := by decide +kernel
theorem dX9_init_83 : decode cX9_init 83 = .ok (.bipush 60, 2) := by decide +kernel
theorem dX9_init_85 : decode cX9_init 85 = .ok (.newarray .boolean, 2) := by decide +kernel
theorem dX9_init_87 : decode cX9_init 87 = .ok (.putfield 37, 3) := by decide +kernel
theorem dX9_init_90 : decode cX9_init 90 = .ok (.aload_n 0, 1) := by decide +kernel
theorem dX9_init_91 : decode cX9_init 91 = .ok (.bipush 20, 2) := by decide +kernel
theorem dX9_init_93 : decode cX9_init 93 = .ok (.newarray .int, 2) := by decide +kernel
theorem dX9_init_95 : decode cX9_init 95 = .ok (.putfield 41, 3) := by decide +kernel
theorem dX9_init_98 : decode cX9_init 98 = .ok (.aload_n 0, 1) := by decide +kernel
theorem dX9_init_99 : decode cX9_init 99 = .ok (.bipush 20, 2) := by decide +kernel
theorem dX9_init_101 : decode cX9_init 101 = .ok (.newarray .int, 2) := by decide +kernel
theorem dX9_init_103 : decode cX9_init 103 = .ok (.putfield 44, 3) := by decide +kernel
theorem dX9_init_106 : decode cX9_init 106 = .ok (.aload_n 0, 1) := by decide +kernel
theorem dX9_init_107 : decode cX9_init 107 = .ok (.sipush 200, 3) := by decide +kernel
theorem dX9_init_110 : decode cX9_init 110 = .ok (.newarray .int, 2) := by decide +kernel
theorem dX9_init_112 : decode cX9_init 112 = .ok (.putfield 47, 3) := by decide +kernel
theorem dX9_init_115 : decode cX9_init 115 = .ok (.aload_n 0, 1) := by decide +kernel
theorem dX9_init_116 : decode cX9_init 116 = .ok (.sipush 200, 3) := by decide +kernel
theorem dX9_init_119 : decode cX9_init 119 = .ok (.newarray .int, 2) := by decide +kernel
theorem dX9_init_121 : decode cX9_init 121 = .ok (.putfield 50, 3) := by decide +kernel
theorem dX9_init_124 : decode cX9_init 124 = .ok (.aload_n 0, 1) := by decide +kernel
theorem dX9_init_125 : decode cX9_init 125 = .ok (.sipush 200, 3) := by decide +kernel
theorem dX9_init_128 : decode cX9_init 128 = .ok (.newarray .int, 2) := by decide +kernel
theorem dX9_init_130 : decode cX9_init 130 = .ok (.putfield 53, 3) := by decide +kernel
theorem dX9_init_133 : decode cX9_init 133 = .ok (.aload_n 0, 1) := by decide +kernel
theorem dX9_init_134 : decode cX9_init 134 = .ok (.sipush 200, 3) := by decide +kernel
theorem dX9_init_137 : decode cX9_init 137 = .ok (.newarray .int, 2) := by decide +kernel
theorem dX9_init_139 : decode cX9_init 139 = .ok (.putfield 56, 3) := by decide +kernel
theorem dX9_init_142 : decode cX9_init 142 = .ok (.aload_n 0, 1) := by decide +kernel
theorem dX9_init_143 : decode cX9_init 143 = .ok (.bipush 20, 2) := by decide +kernel
theorem dX9_init_145 : decode cX9_init 145 = .ok (.newarray .int, 2) := by decide +kernel
theorem dX9_init_147 : decode cX9_init 147 = .ok (.putfield 59, 3) := by decide +kernel
theorem dX9_init_150 : decode cX9_init 150 = .ok (.aload_n 0, 1) := by decide +kernel
theorem dX9_init_151 : decode cX9_init 151 = .ok (.bipush 20, 2) := by decide +kernel
theorem dX9_init_153 : decode cX9_init 153 = .ok (.newarray .int, 2) := by decide +kernel
theorem dX9_init_155 : decode cX9_init 155 = .ok (.putfield 62, 3) := by decide +kernel
theorem dX9_init_158 : decode cX9_init 158 = .ok (.aload_n 0, 1) := by decide +kernel
theorem dX9_init_159 : decode cX9_init 159 = .ok (.bipush 20, 2) := by decide +kernel
theorem dX9_init_161 : decode cX9_init 161 = .ok (.newarray .int, 2) := by decide +kernel
theorem dX9_init_163 : decode cX9_init 163 = .ok (.putfield 65, 3) := by decide +kernel
theorem dX9_init_166 : decode cX9_init 166 = .ok (.aload_n 0, 1) := by decide +kernel
theorem dX9_init_167 : decode cX9_init 167 = .ok (.sipush 200, 3) := by decide +kernel
theorem dX9_init_170 : decode cX9_init 170 = .ok (.newarray .int, 2) := by decide +kernel
theorem dX9_init_172 : decode cX9_init 172 = .ok (.putfield 68, 3) := by decide +kernel
theorem dX9_init_175 : decode cX9_init 175 = .ok (.aload_n 0, 1) := by decide +kernel
theorem dX9_init_176 : decode cX9_init 176 = .ok (.sipush 200, 3) := by decide +kernel
theorem dX9_init_179 : decode cX9_init 179 = .ok (.newarray .int, 2) := by decide +kernel
theorem dX9_init_181 : decode cX9_init 181 = .ok (.putfield 71, 3) := by decide +kernel
theorem dX9_init_184 : decode cX9_init 184 = .ok (.aload_n 0, 1) := by decide +kernel
theorem dX9_init_185 : decode cX9_init 185 = .ok (.sipush 200, 3) := by decide +kernel
theorem dX9_init_188 : decode cX9_init 188 = .ok (.newarray .int, 2) := by decide +kernel
theorem dX9_init_190 : decode cX9_init 190 = .ok (.putfield 74, 3) := by decide +kernel
theorem dX9_init_193 : decode cX9_init 193 = .ok (.aload_n 0, 1) := by decide +kernel
theorem dX9_init_194 : decode cX9_init 194 = .ok (.sipush 200, 3) := by decide +kernel
theorem dX9_init_197 : decode cX9_init 197 = .ok (.newarray .int, 2) := by decide +kernel
theorem dX9_init_199 : decode cX9_init 199 = .ok (.putfield 77, 3) := by decide +kernel
theorem dX9_init_202 : decode cX9_init 202 = .ok (.aload_n 0, 1) := by decide +kernel
theorem dX9_init_203 : decode cX9_init 203 = .ok (.bipush 6, 2) := by decide +kernel
theorem dX9_init_205 : decode cX9_init 205 = .ok (.newarray .int, 2) := by decide +kernel
theorem dX9_init_207 : decode cX9_init 207 = .ok (.putfield 80, 3) := by decide +kernel
theorem dX9_init_210 : decode cX9_init 210 = .ok (.aload_n 0, 1) := by decide +kernel
theorem dX9_init_211 : decode cX9_init 211 = .ok (.sipush 200, 3) := by decide +kernel
theorem dX9_init_214 : decode cX9_init 214 = .ok (.newarray .int, 2) := by decide +kernel
theorem dX9_init_216 : decode cX9_init 216 = .ok (.putfield 83, 3) := by decide +kernel
theorem dX9_init_219 : decode cX9_init 219 = .ok (.aload_n 0, 1) := by decide +kernel
theorem dX9_init_220 : decode cX9_init 220 = .ok (.iconst (-1), 1) := by decide +kernel
theorem dX9_init_221 : decode cX9_init 221 = .ok (.putfield 86, 3) := by decide +kernel
theorem dX9_init_224 : decode cX9_init 224 = .ok (.aload_n 0, 1) := by decide +kernel
theorem dX9_init_225 : decode cX9_init 225 = .ok (.sipush 600, 3) := by decide +kernel
theorem dX9_init_228 : decode cX9_init 228 = .ok (.newarray .int, 2) := by decide +kernel
theorem dX9_init_230 : decode cX9_init 230 = .ok (.putfield 90, 3) := by decide +kernel
theorem dX9_init_233 : decode cX9_init 233 = .ok (.aload_n 0, 1) := by decide +kernel
theorem dX9_init_234 : decode cX9_init 234 = .ok (.sipush 600, 3) := by decide +kernel
theorem dX9_init_237 : decode cX9_init 237 = .ok (.newarray .int, 2) := by decide +kernel
theorem dX9_init_239 : decode cX9_init 239 = .ok (.putfield 93, 3) := by decide +kernel
theorem dX9_init_242 : decode cX9_init 242 = .ok (.aload_n 0, 1) := by decide +kernel
theorem dX9_init_243 : decode cX9_init 243 = .ok (.bipush 60, 2) := by decide +kernel
theorem dX9_init_245 : decode cX9_init 245 = .ok (.newarray .boolean, 2) := by decide +kernel
theorem dX9_init_247 : decode cX9_init 247 = .ok (.putfield 96, 3) := by decide +kernel
theorem dX9_init_250 : decode cX9_init 250 = .ok (.aload_n 0, 1) := by decide +kernel
theorem dX9_init_251 : decode cX9_init 251 = .ok (.bipush 8, 2) := by decide +kernel
theorem dX9_init_253 : decode cX9_init 253 = .ok (.newarray .int, 2) := by decide +kernel
theorem dX9_init_255 : decode cX9_init 255 = .ok (.putfield 99, 3) := by decide +kernel
theorem dX9_init_258 : decode cX9_init 258 = .ok (.aload_n 0, 1) := by decide +kernel
theorem dX9_init_259 : decode cX9_init 259 = .ok (.bipush 8, 2) := by decide +kernel
theorem dX9_init_261 : decode cX9_init 261 = .ok (.newarray .int, 2) := by decide +kernel
theorem dX9_init_263 : decode cX9_init 263 = .ok (.putfield 102, 3) := by decide +kernel
theorem dX9_init_266 : decode cX9_init 266 = .ok (.aload_n 0, 1) := by decide +kernel
theorem dX9_init_267 : decode cX9_init 267 = .ok (.bipush 8, 2) := by decide +kernel
theorem dX9_init_269 : decode cX9_init 269 = .ok (.newarray .int, 2) := by decide +kernel
theorem dX9_init_271 : decode cX9_init 271 = .ok (.putfield 105, 3) := by decide +kernel
theorem dX9_init_274 : decode cX9_init 274 = .ok (.aload_n 0, 1) := by decide +kernel
theorem dX9_init_275 : decode cX9_init 275 = .ok (.bipush 10, 2) := by decide +kernel
theorem dX9_init_277 : decode cX9_init 277 = .ok (.newarray .int, 2) := by decide +kernel
theorem dX9_init_279 : decode cX9_init 279 = .ok (.putfield 108, 3) := by decide +kernel
theorem dX9_init_282 : decode cX9_init 282 = .ok (.aload_n 0, 1) := by decide +kernel
theorem dX9_init_283 : decode cX9_init 283 = .ok (.bipush 10, 2) := by decide +kernel
theorem dX9_init_285 : decode cX9_init 285 = .ok (.newarray .int, 2) := by decide +kernel
theorem dX9_init_287 : decode cX9_init 287 = .ok (.putfield 111, 3) := by decide +kernel
theorem dX9_init_290 : decode cX9_init 290 = .ok (.aload_n 0, 1) := by decide +kernel
theorem dX9_init_291 : decode cX9_init 291 = .ok (.sipush 6000, 3) := by decide +kernel
theorem dX9_init_294 : decode cX9_init 294 = .ok (.newarray .int, 2) := by decide +kernel
theorem dX9_init_296 : decode cX9_init 296 = .ok (.putfield 114, 3) := by decide +kernel
theorem dX9_init_299 : decode cX9_init 299 = .ok (.aload_n 0, 1) := by decide +kernel
theorem dX9_init_300 : decode cX9_init 300 = .ok (.sipush 6000, 3) := by decide +kernel
theorem dX9_init_303 : decode cX9_init 303 = .ok (.newarray .int, 2) := by decide +kernel
theorem dX9_init_305 : decode cX9_init 305 = .ok (.putfield 117, 3) := by decide +kernel
theorem dX9_init_308 : decode cX9_init 308 = .ok (.aload_n 0, 1) := by decide +kernel
theorem dX9_init_309 : decode cX9_init 309 = .ok (.sipush 600, 3) := by decide +kernel
theorem dX9_init_312 : decode cX9_init 312 = .ok (.newarray .int, 2) := by decide +kernel
theorem dX9_init_314 : decode cX9_init 314 = .ok (.putfield 120, 3) := by decide +kernel
theorem dX9_init_317 : decode cX9_init 317 = .ok (.return_, 1) := by decide +kernel
theorem dX9_in_0 : decode cX9_in 0 = .ok (.lload_n 0, 1) := by decide +kernel
theorem dX9_in_1 : decode cX9_in 1 = .ok (.lload_n 2, 1) := by decide +kernel
theorem dX9_in_2 : decode cX9_in 2 = .ok (.lcmp, 1) := by decide +kernel
theorem dX9_in_3 : decode cX9_in 3 = .ok (.ifCond .lt 14, 3) := by decide +kernel
theorem dX9_in_6 : decode cX9_in 6 = .ok (.lload_n 0, 1) := by decide +kernel
theorem dX9_in_7 : decode cX9_in 7 = .ok (.lload 4, 2) := by decide +kernel
theorem dX9_in_9 : decode cX9_in 9 = .ok (.lcmp, 1) := by decide +kernel
theorem dX9_in_10 : decode cX9_in 10 = .ok (.ifCond .gt 7, 3) := by decide +kernel
theorem dX9_in_13 : decode cX9_in 13 = .ok (.iconst 1, 1) := by decide +kernel
theorem dX9_in_14 : decode cX9_in 14 = .ok (.goto 4, 3) := by decide +kernel
theorem dX9_in_17 : decode cX9_in 17 = .ok (.iconst 0, 1) := by decide +kernel
theorem dX9_in_18 : decode cX9_in 18 = .ok (.ireturn, 1) := by decide +kernel
theorem dX9_told_0 : decode cX9_told 0 = .ok (.aload_n 0, 1) := by decide +kernel
theorem dX9_told_1 : decode cX9_told 1 = .ok (.iload_n 1, 1) := by decide +kernel
theorem dX9_told_2 : decode cX9_told 2 = .ok (.ifCond .ge 7, 3) := by decide +kernel
theorem dX9_told_5 : decode cX9_told 5 = .ok (.iload_n 1, 1) := by decide +kernel
theorem dX9_told_6 : decode cX9_told 6 = .ok (.goto 4, 3) := by decide +kernel
theorem dX9_told_9 : decode cX9_told 9 = .ok (.iconst 0, 1) := by decide +kernel
theorem dX9_told_10 : decode cX9_told 10 = .ok (.putfield 126, 3) := by decide +kernel
theorem dX9_told_13 : decode cX9_told 13 = .ok (.iload_n 1, 1) := by decide +kernel
theorem dX9_told_14 : decode cX9_told 14 = .ok (.ireturn, 1) := by decide +kernel
theorem dX9_tell_0 : decode cX9_tell 0 = .ok (.aload_n 0, 1) := by decide +kernel
theorem dX9_tell_1 : decode cX9_tell 1 = .ok (.getfield 7, 3) := by decide +kernel
theorem dX9_tell_4 : decode cX9_tell 4 = .ok (.aload_n 0, 1) := by decide +kernel
theorem dX9_tell_5 : decode cX9_tell 5 = .ok (.getfield 129, 3) := by decide +kernel
theorem dX9_tell_8 : decode cX9_tell 8 = .ok (.iload_n 1, 1) := by decide +kernel
theorem dX9_tell_9 : decode cX9_tell 9 = .ok (.iastore, 1) := by decide +kernel
theorem dX9_tell_10 : decode cX9_tell 10 = .ok (.aload_n 0, 1) := by decide +kernel
theorem dX9_tell_11 : decode cX9_tell 11 = .ok (.getfield 13, 3) := by decide +kernel
theorem dX9_tell_14 : decode cX9_tell 14 = .ok (.aload_n 0, 1) := by decide +kernel
theorem dX9_tell_15 : decode cX9_tell 15 = .ok (.getfield 129, 3) := by decide +kernel
theorem dX9_tell_18 : decode cX9_tell 18 = .ok (.iload_n 2, 1) := by decide +kernel
theorem dX9_tell_19 : decode cX9_tell 19 = .ok (.iastore, 1) := by decide +kernel
theorem dX9_tell_20 : decode cX9_tell 20 = .ok (.aload_n 0, 1) := by decide +kernel
theorem dX9_tell_21 : decode cX9_tell 21 = .ok (.getfield 16, 3) := by decide +kernel
theorem dX9_tell_24 : decode cX9_tell 24 = .ok (.aload_n 0, 1) := by decide +kernel
theorem dX9_tell_25 : decode cX9_tell 25 = .ok (.getfield 129, 3) := by decide +kernel
theorem dX9_tell_28 : decode cX9_tell 28 = .ok (.iload_n 3, 1) := by decide +kernel
theorem dX9_tell_29 : decode cX9_tell 29 = .ok (.iastore, 1) := by decide +kernel
theorem dX9_tell_30 : decode cX9_tell 30 = .ok (.aload_n 0, 1) := by decide +kernel
theorem dX9_tell_31 : decode cX9_tell 31 = .ok (.getfield 19, 3) := by decide +kernel
theorem dX9_tell_34 : decode cX9_tell 34 = .ok (.aload_n 0, 1) := by decide +kernel
theorem dX9_tell_35 : decode cX9_tell 35 = .ok (.getfield 129, 3) := by decide +kernel
theorem dX9_tell_38 : decode cX9_tell 38 = .ok (.iload 4, 2) := by decide +kernel
theorem dX9_tell_40 : decode cX9_tell 40 = .ok (.iastore, 1) := by decide +kernel
theorem dX9_tell_41 : decode cX9_tell 41 = .ok (.aload_n 0, 1) := by decide +kernel
theorem dX9_tell_42 : decode cX9_tell 42 = .ok (.getfield 22, 3) := by decide +kernel
theorem dX9_tell_45 : decode cX9_tell 45 = .ok (.aload_n 0, 1) := by decide +kernel
theorem dX9_tell_46 : decode cX9_tell 46 = .ok (.getfield 129, 3) := by decide +kernel
theorem dX9_tell_49 : decode cX9_tell 49 = .ok (.iload 5, 2) := by decide +kernel
theorem dX9_tell_51 : decode cX9_tell 51 = .ok (.iastore, 1) := by decide +kernel
theorem dX9_tell_52 : decode cX9_tell 52 = .ok (.aload_n 0, 1) := by decide +kernel
theorem dX9_tell_53 : decode cX9_tell 53 = .ok (.getfield 25, 3) := by decide +kernel
theorem dX9_tell_56 : decode cX9_tell 56 = .ok (.aload_n 0, 1) := by decide +kernel
theorem dX9_tell_57 : decode cX9_tell 57 = .ok (.getfield 129, 3) := by decide +kernel
theorem dX9_tell_60 : decode cX9_tell 60 = .ok (.iload 6, 2) := by decide +kernel
theorem dX9_tell_62 : decode cX9_tell 62 = .ok (.iastore, 1) := by decide +kernel
theorem dX9_tell_63 : decode cX9_tell 63 = .ok (.aload_n 0, 1) := by decide +kernel
theorem dX9_tell_64 : decode cX9_tell 64 = .ok (.dup, 1) := by decide +kernel
theorem dX9_tell_65 : decode cX9_tell 65 = .ok (.getfield 129, 3) := by decide +kernel
theorem dX9_tell_68 : decode cX9_tell 68 = .ok (.iconst 1, 1) := by decide +kernel
theorem dX9_tell_69 : decode cX9_tell 69 = .ok (.iadd, 1) := by decide +kernel
theorem dX9_tell_70 : decode cX9_tell 70 = .ok (.putfield 129, 3) := by decide +kernel
theorem dX9_tell_73 : decode cX9_tell 73 = .ok (.aload_n 0, 1) := by decide +kernel
theorem dX9_tell_74 : decode cX9_tell 74 = .ok (.aload_n 0, 1) := by decide +kernel
theorem dX9_tell_75 : decode cX9_tell 75 = .ok (.getfield 129, 3) := by decide +kernel
theorem dX9_tell_78 : decode cX9_tell 78 = .ok (.iconst 1, 1) := by decide +kernel
theorem dX9_tell_79 : decode cX9_tell 79 = .ok (.isub, 1) := by decide +kernel
theorem dX9_tell_80 : decode cX9_tell 80 = .ok (.invokevirtual 132, 3) := by decide +kernel
theorem dX9_tell_83 : decode cX9_tell 83 = .ok (.return_, 1) := by decide +kernel
theorem dX9_goOne_0 : decode cX9_goOne 0 = .ok (.aload_n 0, 1) := by decide +kernel
theorem dX9_goOne_1 : decode cX9_goOne 1 = .ok (.getfield 13, 3) := by decide +kernel
theorem dX9_goOne_4 : decode cX9_goOne 4 = .ok (.iload_n 1, 1) := by decide +kernel
theorem dX9_goOne_5 : decode cX9_goOne 5 = .ok (.iaload, 1) := by decide +kernel
theorem dX9_goOne_6 : decode cX9_goOne 6 = .ok (.istore_n 2, 1) := by decide +kernel
theorem dX9_goOne_7 : decode cX9_goOne 7 = .ok (.aload_n 0, 1) := by decide +kernel
theorem dX9_goOne_8 : decode cX9_goOne 8 = .ok (.getfield 7, 3) := by decide +kernel
theorem dX9_goOne_11 : decode cX9_goOne 11 = .ok (.iload_n 1, 1) := by decide +kernel
theorem dX9_goOne_12 : decode cX9_goOne 12 = .ok (.iaload, 1) := by decide +kernel
theorem dX9_goOne_13 : decode cX9_goOne 13 = .ok (.tableswitch 137 0 2 #[27, 98, 113], 27) := by decide +kernel
theorem dX9_goOne_40 : decode cX9_goOne 40 = .ok (.aload_n 0, 1) := by decide +kernel
theorem dX9_goOne_41 : decode cX9_goOne 41 = .ok (.getfield 28, 3) := by decide +kernel
theorem dX9_goOne_44 : decode cX9_goOne 44 = .ok (.iload_n 2, 1) := by decide +kernel
theorem dX9_goOne_45 : decode cX9_goOne 45 = .ok (.aload_n 0, 1) := by decide +kernel
theorem dX9_goOne_46 : decode cX9_goOne 46 = .ok (.getfield 16, 3) := by decide +kernel
theorem dX9_goOne_49 : decode cX9_goOne 49 = .ok (.iload_n 1, 1) := by decide +kernel
theorem dX9_goOne_50 : decode cX9_goOne 50 = .ok (.iaload, 1) := by decide +kernel
theorem dX9_goOne_51 : decode cX9_goOne 51 = .ok (.iastore, 1) := by decide +kernel
theorem dX9_goOne_52 : decode cX9_goOne 52 = .ok (.aload_n 0, 1) := by decide +kernel
theorem dX9_goOne_53 : decode cX9_goOne 53 = .ok (.getfield 31, 3) := by decide +kernel
theorem dX9_goOne_56 : decode cX9_goOne 56 = .ok (.iload_n 2, 1) := by decide +kernel
theorem dX9_goOne_57 : decode cX9_goOne 57 = .ok (.aload_n 0, 1) := by decide +kernel
theorem dX9_goOne_58 : decode cX9_goOne 58 = .ok (.getfield 19, 3) := by decide +kernel
theorem dX9_goOne_61 : decode cX9_goOne 61 = .ok (.iload_n 1, 1) := by decide +kernel
theorem dX9_goOne_62 : decode cX9_goOne 62 = .ok (.iaload, 1) := by decide +kernel
theorem dX9_goOne_63 : decode cX9_goOne 63 = .ok (.iastore, 1) := by decide +kernel
theorem dX9_goOne_64 : decode cX9_goOne 64 = .ok (.aload_n 0, 1) := by decide +kernel
theorem dX9_goOne_65 : decode cX9_goOne 65 = .ok (.getfield 34, 3) := by decide +kernel
theorem dX9_goOne_68 : decode cX9_goOne 68 = .ok (.iconst 2, 1) := by decide +kernel
theorem dX9_goOne_69 : decode cX9_goOne 69 = .ok (.iload_n 2, 1) := by decide +kernel
theorem dX9_goOne_70 : decode cX9_goOne 70 = .ok (.imul, 1) := by decide +kernel
theorem dX9_goOne_71 : decode cX9_goOne 71 = .ok (.aload_n 0, 1) := by decide +kernel
theorem dX9_goOne_72 : decode cX9_goOne 72 = .ok (.getfield 22, 3) := by decide +kernel
theorem dX9_goOne_75 : decode cX9_goOne 75 = .ok (.iload_n 1, 1) := by decide +kernel
theorem dX9_goOne_76 : decode cX9_goOne 76 = .ok (.iaload, 1) := by decide +kernel
theorem dX9_goOne_77 : decode cX9_goOne 77 = .ok (.iastore, 1) := by decide +kernel
theorem dX9_goOne_78 : decode cX9_goOne 78 = .ok (.aload_n 0, 1) := by decide +kernel
theorem dX9_goOne_79 : decode cX9_goOne 79 = .ok (.getfield 34, 3) := by decide +kernel
theorem dX9_goOne_82 : decode cX9_goOne 82 = .ok (.iconst 2, 1) := by decide +kernel
theorem dX9_goOne_83 : decode cX9_goOne 83 = .ok (.iload_n 2, 1) := by decide +kernel
theorem dX9_goOne_84 : decode cX9_goOne 84 = .ok (.imul, 1) := by decide +kernel
theorem dX9_goOne_85 : decode cX9_goOne 85 = .ok (.iconst 1, 1) := by decide +kernel
theorem dX9_goOne_86 : decode cX9_goOne 86 = .ok (.iadd, 1) := by decide +kernel
theorem dX9_goOne_87 : decode cX9_goOne 87 = .ok (.aload_n 0, 1) := by decide +kernel
theorem dX9_goOne_88 : decode cX9_goOne 88 = .ok (.getfield 25, 3) := by decide +kernel
theorem dX9_goOne_91 : decode cX9_goOne 91 = .ok (.iload_n 1, 1) := by decide +kernel
theorem dX9_goOne_92 : decode cX9_goOne 92 = .ok (.iaload, 1) := by decide +kernel
theorem dX9_goOne_93 : decode cX9_goOne 93 = .ok (.iastore, 1) := by decide +kernel
theorem dX9_goOne_94 : decode cX9_goOne 94 = .ok (.aload_n 0, 1) := by decide +kernel
theorem dX9_goOne_95 : decode cX9_goOne 95 = .ok (.getfield 37, 3) := by decide +kernel
theorem dX9_goOne_98 : decode cX9_goOne 98 = .ok (.iload_n 2, 1) := by decide +kernel
theorem dX9_goOne_99 : decode cX9_goOne 99 = .ok (.iconst 1, 1) := by decide +kernel
theorem dX9_goOne_100 : decode cX9_goOne 100 = .ok (.bastore, 1) := by decide +kernel
theorem dX9_goOne_101 : decode cX9_goOne 101 = .ok (.aload_n 0, 1) := by decide +kernel
theorem dX9_goOne_102 : decode cX9_goOne 102 = .ok (.iload_n 2, 1) := by decide +kernel
theorem dX9_goOne_103 : decode cX9_goOne 103 = .ok (.iconst 1, 1) := by decide +kernel
theorem dX9_goOne_104 : decode cX9_goOne 104 = .ok (.iadd, 1) := by decide +kernel
theorem dX9_goOne_105 : decode cX9_goOne 105 = .ok (.putfield 136, 3) := by decide +kernel
theorem dX9_goOne_108 : decode cX9_goOne 108 = .ok (.goto 49, 3) := by decide +kernel
theorem dX9_goOne_111 : decode cX9_goOne 111 = .ok (.aload_n 0, 1) := by decide +kernel
theorem dX9_goOne_112 : decode cX9_goOne 112 = .ok (.getfield 31, 3) := by decide +kernel
theorem dX9_goOne_115 : decode cX9_goOne 115 = .ok (.iload_n 2, 1) := by decide +kernel
theorem dX9_goOne_116 : decode cX9_goOne 116 = .ok (.aload_n 0, 1) := by decide +kernel
theorem dX9_goOne_117 : decode cX9_goOne 117 = .ok (.getfield 16, 3) := by decide +kernel
theorem dX9_goOne_120 : decode cX9_goOne 120 = .ok (.iload_n 1, 1) := by decide +kernel
theorem dX9_goOne_121 : decode cX9_goOne 121 = .ok (.iaload, 1) := by decide +kernel
theorem dX9_goOne_122 : decode cX9_goOne 122 = .ok (.iastore, 1) := by decide +kernel
theorem dX9_goOne_123 : decode cX9_goOne 123 = .ok (.goto 34, 3) := by decide +kernel
theorem dX9_goOne_126 : decode cX9_goOne 126 = .ok (.aload_n 0, 1) := by decide +kernel
theorem dX9_goOne_127 : decode cX9_goOne 127 = .ok (.getfield 34, 3) := by decide +kernel
theorem dX9_goOne_130 : decode cX9_goOne 130 = .ok (.iconst 2, 1) := by decide +kernel
theorem dX9_goOne_131 : decode cX9_goOne 131 = .ok (.iload_n 2, 1) := by decide +kernel
theorem dX9_goOne_132 : decode cX9_goOne 132 = .ok (.imul, 1) := by decide +kernel
theorem dX9_goOne_133 : decode cX9_goOne 133 = .ok (.aload_n 0, 1) := by decide +kernel
theorem dX9_goOne_134 : decode cX9_goOne 134 = .ok (.getfield 16, 3) := by decide +kernel
theorem dX9_goOne_137 : decode cX9_goOne 137 = .ok (.iload_n 1, 1) := by decide +kernel
theorem dX9_goOne_138 : decode cX9_goOne 138 = .ok (.iaload, 1) := by decide +kernel
theorem dX9_goOne_139 : decode cX9_goOne 139 = .ok (.iadd, 1) := by decide +kernel
theorem dX9_goOne_140 : decode cX9_goOne 140 = .ok (.aload_n 0, 1) := by decide +kernel
theorem dX9_goOne_141 : decode cX9_goOne 141 = .ok (.getfield 19, 3) := by decide +kernel
theorem dX9_goOne_144 : decode cX9_goOne 144 = .ok (.iload_n 1, 1) := by decide +kernel
theorem dX9_goOne_145 : decode cX9_goOne 145 = .ok (.iaload, 1) := by decide +kernel
theorem dX9_goOne_146 : decode cX9_goOne 146 = .ok (.iastore, 1) := by decide +kernel
theorem dX9_goOne_147 : decode cX9_goOne 147 = .ok (.goto 10, 3) := by decide +kernel
theorem dX9_goOne_150 : decode cX9_goOne 150 = .ok (.aload_n 0, 1) := by decide +kernel
theorem dX9_goOne_151 : decode cX9_goOne 151 = .ok (.getfield 37, 3) := by decide +kernel
theorem dX9_goOne_154 : decode cX9_goOne 154 = .ok (.iload_n 2, 1) := by decide +kernel
theorem dX9_goOne_155 : decode cX9_goOne 155 = .ok (.iconst 0, 1) := by decide +kernel
theorem dX9_goOne_156 : decode cX9_goOne 156 = .ok (.bastore, 1) := by decide +kernel
theorem dX9_goOne_157 : decode cX9_goOne 157 = .ok (.return_, 1) := by decide +kernel
theorem dX9_goTo_0 : decode cX9_goTo 0 = .ok (.aload_n 0, 1) := by decide +kernel
theorem dX9_goTo_1 : decode cX9_goTo 1 = .ok (.iconst 0, 1) := by decide +kernel
theorem dX9_goTo_2 : decode cX9_goTo 2 = .ok (.putfield 136, 3) := by decide +kernel
theorem dX9_goTo_5 : decode cX9_goTo 5 = .ok (.iconst 0, 1) := by decide +kernel
theorem dX9_goTo_6 : decode cX9_goTo 6 = .ok (.istore_n 2, 1) := by decide +kernel
theorem dX9_goTo_7 : decode cX9_goTo 7 = .ok (.iload_n 2, 1) := by decide +kernel
theorem dX9_goTo_8 : decode cX9_goTo 8 = .ok (.iload_n 1, 1) := by decide +kernel
theorem dX9_goTo_9 : decode cX9_goTo 9 = .ok (.if_icmp .ge 14, 3) := by decide +kernel
theorem dX9_goTo_12 : decode cX9_goTo 12 = .ok (.aload_n 0, 1) := by decide +kernel
theorem dX9_goTo_13 : decode cX9_goTo 13 = .ok (.iload_n 2, 1) := by decide +kernel
theorem dX9_goTo_14 : decode cX9_goTo 14 = .ok (.invokevirtual 132, 3) := by decide +kernel
theorem dX9_goTo_17 : decode cX9_goTo 17 = .ok (.iinc 2 1, 3) := by decide +kernel
theorem dX9_goTo_20 : decode cX9_goTo 20 = .ok (.goto (-13), 3) := by decide +kernel
theorem dX9_goTo_23 : decode cX9_goTo 23 = .ok (.return_, 1) := by decide +kernel
theorem dX9_isRow_0 : decode cX9_isRow 0 = .ok (.iload_n 1, 1) := by decide +kernel
theorem dX9_isRow_1 : decode cX9_isRow 1 = .ok (.i2l, 1) := by decide +kernel
theorem dX9_isRow_2 : decode cX9_isRow 2 = .ok (.lconst 0, 1) := by decide +kernel
theorem dX9_isRow_3 : decode cX9_isRow 3 = .ok (.aload_n 0, 1) := by decide +kernel
theorem dX9_isRow_4 : decode cX9_isRow 4 = .ok (.getfield 136, 3) := by decide +kernel
theorem dX9_isRow_7 : decode cX9_isRow 7 = .ok (.i2l, 1) := by decide +kernel
theorem dX9_isRow_8 : decode cX9_isRow 8 = .ok (.lconst 1, 1) := by decide +kernel
theorem dX9_isRow_9 : decode cX9_isRow 9 = .ok (.lsub, 1) := by decide +kernel
theorem dX9_isRow_10 : decode cX9_isRow 10 = .ok (.invokestatic 139, 3) := by decide +kernel
theorem dX9_isRow_13 : decode cX9_isRow 13 = .ok (.ifCond .eq 16, 3) := by decide +kernel
theorem dX9_isRow_16 : decode cX9_isRow 16 = .ok (.aload_n 0, 1) := by decide +kernel
theorem dX9_isRow_17 : decode cX9_isRow 17 = .ok (.getfield 37, 3) := by decide +kernel
theorem dX9_isRow_20 : decode cX9_isRow 20 = .ok (.iload_n 1, 1) := by decide +kernel
theorem dX9_isRow_21 : decode cX9_isRow 21 = .ok (.baload, 1) := by decide +kernel
theorem dX9_isRow_22 : decode cX9_isRow 22 = .ok (.ifCond .eq 7, 3) := by decide +kernel
theorem dX9_isRow_25 : decode cX9_isRow 25 = .ok (.iconst 1, 1) := by decide +kernel
theorem dX9_isRow_26 : decode cX9_isRow 26 = .ok (.goto 4, 3) := by decide +kernel
theorem dX9_isRow_29 : decode cX9_isRow 29 = .ok (.iconst 0, 1) := by decide +kernel
theorem dX9_isRow_30 : decode cX9_isRow 30 = .ok (.ireturn, 1) := by decide +kernel
theorem dX9_isValue_0 : decode cX9_isValue 0 = .ok (.iload_n 0, 1) := by decide +kernel
theorem dX9_isValue_1 : decode cX9_isValue 1 = .ok (.i2l, 1) := by decide +kernel
theorem dX9_isValue_2 : decode cX9_isValue 2 = .ok (.ldc2_w 143, 3) := by decide +kernel
theorem dX9_isValue_5 : decode cX9_isValue 5 = .ok (.ldc2_w 145, 3) := by decide +kernel
theorem dX9_isValue_8 : decode cX9_isValue 8 = .ok (.invokestatic 139, 3) := by decide +kernel
theorem dX9_isValue_11 : decode cX9_isValue 11 = .ok (.ireturn, 1) := by decide +kernel
theorem dX9_row_0 : decode cX9_row 0 = .ok (.aload_n 0, 1) := by decide +kernel
theorem dX9_row_1 : decode cX9_row 1 = .ok (.iconst 0, 1) := by decide +kernel
theorem dX9_row_2 : decode cX9_row 2 = .ok (.putfield 123, 3) := by decide +kernel
theorem dX9_row_5 : decode cX9_row 5 = .ok (.iload_n 1, 1) := by decide +kernel
theorem dX9_row_6 : decode cX9_row 6 = .ok (.i2l, 1) := by decide +kernel
theorem dX9_row_7 : decode cX9_row 7 = .ok (.lconst 0, 1) := by decide +kernel
theorem dX9_row_8 : decode cX9_row 8 = .ok (.ldc2_w 147, 3) := by decide +kernel
theorem dX9_row_11 : decode cX9_row 11 = .ok (.invokestatic 139, 3) := by decide +kernel
theorem dX9_row_14 : decode cX9_row 14 = .ok (.ifCond .eq 10, 3) := by decide +kernel
theorem dX9_row_17 : decode cX9_row 17 = .ok (.iload_n 2, 1) := by decide +kernel
theorem dX9_row_18 : decode cX9_row 18 = .ok (.invokestatic 149, 3) := by decide +kernel
theorem dX9_row_21 : decode cX9_row 21 = .ok (.ifCond .ne 9, 3) := by decide +kernel
theorem dX9_row_24 : decode cX9_row 24 = .ok (.aload_n 0, 1) := by decide +kernel
theorem dX9_row_25 : decode cX9_row 25 = .ok (.iconst (-1), 1) := by decide +kernel
theorem dX9_row_26 : decode cX9_row 26 = .ok (.invokevirtual 153, 3) := by decide +kernel
theorem dX9_row_29 : decode cX9_row 29 = .ok (.ireturn, 1) := by decide +kernel
theorem dX9_row_30 : decode cX9_row 30 = .ok (.iload_n 3, 1) := by decide +kernel
theorem dX9_row_31 : decode cX9_row 31 = .ok (.iconst (-1), 1) := by decide +kernel
theorem dX9_row_32 : decode cX9_row 32 = .ok (.if_icmp .eq 11, 3) := by decide +kernel
theorem dX9_row_35 : decode cX9_row 35 = .ok (.aload_n 0, 1) := by decide +kernel
theorem dX9_row_36 : decode cX9_row 36 = .ok (.iload_n 3, 1) := by decide +kernel
theorem dX9_row_37 : decode cX9_row 37 = .ok (.invokevirtual 157, 3) := by decide +kernel
theorem dX9_row_40 : decode cX9_row 40 = .ok (.ifCond .eq 18, 3) := by decide +kernel
theorem dX9_row_43 : decode cX9_row 43 = .ok (.iload 4, 2) := by decide +kernel
theorem dX9_row_45 : decode cX9_row 45 = .ok (.iconst (-1), 1) := by decide +kernel
theorem dX9_row_46 : decode cX9_row 46 = .ok (.if_icmp .eq 19, 3) := by decide +kernel
theorem dX9_row_49 : decode cX9_row 49 = .ok (.aload_n 0, 1) := by decide +kernel
theorem dX9_row_50 : decode cX9_row 50 = .ok (.iload 4, 2) := by decide +kernel
theorem dX9_row_52 : decode cX9_row 52 = .ok (.invokevirtual 157, 3) := by decide +kernel
theorem dX9_row_55 : decode cX9_row 55 = .ok (.ifCond .ne 10, 3) := by decide +kernel
theorem dX9_row_58 : decode cX9_row 58 = .ok (.aload_n 0, 1) := by decide +kernel
theorem dX9_row_59 : decode cX9_row 59 = .ok (.bipush (-2), 2) := by decide +kernel
theorem dX9_row_61 : decode cX9_row 61 = .ok (.invokevirtual 153, 3) := by decide +kernel
theorem dX9_row_64 : decode cX9_row 64 = .ok (.ireturn, 1) := by decide +kernel
theorem dX9_row_65 : decode cX9_row 65 = .ok (.aload_n 0, 1) := by decide +kernel
theorem dX9_row_66 : decode cX9_row 66 = .ok (.getfield 136, 3) := by decide +kernel
theorem dX9_row_69 : decode cX9_row 69 = .ok (.bipush 60, 2) := by decide +kernel
theorem dX9_row_71 : decode cX9_row 71 = .ok (.if_icmp .eq 13, 3) := by decide +kernel
theorem dX9_row_74 : decode cX9_row 74 = .ok (.aload_n 0, 1) := by decide +kernel
theorem dX9_row_75 : decode cX9_row 75 = .ok (.getfield 129, 3) := by decide +kernel
theorem dX9_row_78 : decode cX9_row 78 = .ok (.sipush 300, 3) := by decide +kernel
theorem dX9_row_81 : decode cX9_row 81 = .ok (.if_icmp .ne 10, 3) := by decide +kernel
theorem dX9_row_84 : decode cX9_row 84 = .ok (.aload_n 0, 1) := by decide +kernel
theorem dX9_row_85 : decode cX9_row 85 = .ok (.bipush (-5), 2) := by decide +kernel
theorem dX9_row_87 : decode cX9_row 87 = .ok (.invokevirtual 153, 3) := by decide +kernel
theorem dX9_row_90 : decode cX9_row 90 = .ok (.ireturn, 1) := by decide +kernel
theorem dX9_row_91 : decode cX9_row 91 = .ok (.aload_n 0, 1) := by decide +kernel
theorem dX9_row_92 : decode cX9_row 92 = .ok (.iconst 0, 1) := by decide +kernel
theorem dX9_row_93 : decode cX9_row 93 = .ok (.aload_n 0, 1) := by decide +kernel
theorem dX9_row_94 : decode cX9_row 94 = .ok (.getfield 136, 3) := by decide +kernel
theorem dX9_row_97 : decode cX9_row 97 = .ok (.iload_n 1, 1) := by decide +kernel
theorem dX9_row_98 : decode cX9_row 98 = .ok (.iload_n 2, 1) := by decide +kernel
theorem dX9_row_99 : decode cX9_row 99 = .ok (.iload_n 3, 1) := by decide +kernel
theorem dX9_row_100 : decode cX9_row 100 = .ok (.iload 4, 2) := by decide +kernel
theorem dX9_row_102 : decode cX9_row 102 = .ok (.invokevirtual 160, 3) := by decide +kernel
theorem dX9_row_105 : decode cX9_row 105 = .ok (.aload_n 0, 1) := by decide +kernel
theorem dX9_row_106 : decode cX9_row 106 = .ok (.aload_n 0, 1) := by decide +kernel
theorem dX9_row_107 : decode cX9_row 107 = .ok (.getfield 136, 3) := by decide +kernel
theorem dX9_row_110 : decode cX9_row 110 = .ok (.iconst 1, 1) := by decide +kernel
theorem dX9_row_111 : decode cX9_row 111 = .ok (.isub, 1) := by decide +kernel
theorem dX9_row_112 : decode cX9_row 112 = .ok (.invokevirtual 153, 3) := by decide +kernel
theorem dX9_row_115 : decode cX9_row 115 = .ok (.ireturn, 1) := by decide +kernel
theorem dX9_value_0 : decode cX9_value 0 = .ok (.aload_n 0, 1) := by decide +kernel
theorem dX9_value_1 : decode cX9_value 1 = .ok (.iconst 0, 1) := by decide +kernel
theorem dX9_value_2 : decode cX9_value 2 = .ok (.putfield 123, 3) := by decide +kernel
theorem dX9_value_5 : decode cX9_value 5 = .ok (.iload_n 2, 1) := by decide +kernel
theorem dX9_value_6 : decode cX9_value 6 = .ok (.invokestatic 149, 3) := by decide +kernel
theorem dX9_value_9 : decode cX9_value 9 = .ok (.ifCond .ne 9, 3) := by decide +kernel
theorem dX9_value_12 : decode cX9_value 12 = .ok (.aload_n 0, 1) := by decide +kernel
theorem dX9_value_13 : decode cX9_value 13 = .ok (.iconst (-1), 1) := by decide +kernel
theorem dX9_value_14 : decode cX9_value 14 = .ok (.invokevirtual 153, 3) := by decide +kernel
theorem dX9_value_17 : decode cX9_value 17 = .ok (.ireturn, 1) := by decide +kernel
theorem dX9_value_18 : decode cX9_value 18 = .ok (.aload_n 0, 1) := by decide +kernel
theorem dX9_value_19 : decode cX9_value 19 = .ok (.iload_n 1, 1) := by decide +kernel
theorem dX9_value_20 : decode cX9_value 20 = .ok (.invokevirtual 157, 3) := by decide +kernel
theorem dX9_value_23 : decode cX9_value 23 = .ok (.ifCond .ne 10, 3) := by decide +kernel
theorem dX9_value_26 : decode cX9_value 26 = .ok (.aload_n 0, 1) := by decide +kernel
theorem dX9_value_27 : decode cX9_value 27 = .ok (.bipush (-2), 2) := by decide +kernel
theorem dX9_value_29 : decode cX9_value 29 = .ok (.invokevirtual 153, 3) := by decide +kernel
theorem dX9_value_32 : decode cX9_value 32 = .ok (.ireturn, 1) := by decide +kernel
theorem dX9_value_33 : decode cX9_value 33 = .ok (.aload_n 0, 1) := by decide +kernel
theorem dX9_value_34 : decode cX9_value 34 = .ok (.getfield 129, 3) := by decide +kernel
theorem dX9_value_37 : decode cX9_value 37 = .ok (.sipush 300, 3) := by decide +kernel
theorem dX9_value_40 : decode cX9_value 40 = .ok (.if_icmp .ne 10, 3) := by decide +kernel
theorem dX9_value_43 : decode cX9_value 43 = .ok (.aload_n 0, 1) := by decide +kernel
theorem dX9_value_44 : decode cX9_value 44 = .ok (.bipush (-5), 2) := by decide +kernel
theorem dX9_value_46 : decode cX9_value 46 = .ok (.invokevirtual 153, 3) := by decide +kernel
theorem dX9_value_49 : decode cX9_value 49 = .ok (.ireturn, 1) := by decide +kernel
theorem dX9_value_50 : decode cX9_value 50 = .ok (.aload_n 0, 1) := by decide +kernel
theorem dX9_value_51 : decode cX9_value 51 = .ok (.getfield 31, 3) := by decide +kernel
theorem dX9_value_54 : decode cX9_value 54 = .ok (.iload_n 1, 1) := by decide +kernel
theorem dX9_value_55 : decode cX9_value 55 = .ok (.iaload, 1) := by decide +kernel
theorem dX9_value_56 : decode cX9_value 56 = .ok (.istore_n 3, 1) := by decide +kernel
theorem dX9_value_57 : decode cX9_value 57 = .ok (.aload_n 0, 1) := by decide +kernel
theorem dX9_value_58 : decode cX9_value 58 = .ok (.iconst 1, 1) := by decide +kernel
theorem dX9_value_59 : decode cX9_value 59 = .ok (.iload_n 1, 1) := by decide +kernel
theorem dX9_value_60 : decode cX9_value 60 = .ok (.iload_n 2, 1) := by decide +kernel
theorem dX9_value_61 : decode cX9_value 61 = .ok (.iconst 0, 1) := by decide +kernel
theorem dX9_value_62 : decode cX9_value 62 = .ok (.iconst 0, 1) := by decide +kernel
theorem dX9_value_63 : decode cX9_value 63 = .ok (.iconst 0, 1) := by decide +kernel
theorem dX9_value_64 : decode cX9_value 64 = .ok (.invokevirtual 160, 3) := by decide +kernel
theorem dX9_value_67 : decode cX9_value 67 = .ok (.aload_n 0, 1) := by decide +kernel
theorem dX9_value_68 : decode cX9_value 68 = .ok (.iconst 0, 1) := by decide +kernel
theorem dX9_value_69 : decode cX9_value 69 = .ok (.putfield 126, 3) := by decide +kernel
theorem dX9_value_72 : decode cX9_value 72 = .ok (.iload_n 3, 1) := by decide +kernel
theorem dX9_value_73 : decode cX9_value 73 = .ok (.ireturn, 1) := by decide +kernel
theorem dX9_refer_0 : decode cX9_refer 0 = .ok (.aload_n 0, 1) := by decide +kernel
theorem dX9_refer_1 : decode cX9_refer 1 = .ok (.iconst 0, 1) := by decide +kernel
theorem dX9_refer_2 : decode cX9_refer 2 = .ok (.putfield 123, 3) := by decide +kernel
theorem dX9_refer_5 : decode cX9_refer 5 = .ok (.iload_n 2, 1) := by decide +kernel
theorem dX9_refer_6 : decode cX9_refer 6 = .ok (.i2l, 1) := by decide +kernel
theorem dX9_refer_7 : decode cX9_refer 7 = .ok (.lconst 0, 1) := by decide +kernel
theorem dX9_refer_8 : decode cX9_refer 8 = .ok (.lconst 1, 1) := by decide +kernel
theorem dX9_refer_9 : decode cX9_refer 9 = .ok (.invokestatic 139, 3) := by decide +kernel
theorem dX9_refer_12 : decode cX9_refer 12 = .ok (.ifCond .ne 9, 3) := by decide +kernel
theorem dX9_refer_15 : decode cX9_refer 15 = .ok (.aload_n 0, 1) := by decide +kernel
theorem dX9_refer_16 : decode cX9_refer 16 = .ok (.iconst (-1), 1) := by decide +kernel
theorem dX9_refer_17 : decode cX9_refer 17 = .ok (.invokevirtual 153, 3) := by decide +kernel
theorem dX9_refer_20 : decode cX9_refer 20 = .ok (.ireturn, 1) := by decide +kernel
theorem dX9_refer_21 : decode cX9_refer 21 = .ok (.aload_n 0, 1) := by decide +kernel
theorem dX9_refer_22 : decode cX9_refer 22 = .ok (.iload_n 1, 1) := by decide +kernel
theorem dX9_refer_23 : decode cX9_refer 23 = .ok (.invokevirtual 157, 3) := by decide +kernel
theorem dX9_refer_26 : decode cX9_refer 26 = .ok (.ifCond .eq 16, 3) := by decide +kernel
theorem dX9_refer_29 : decode cX9_refer 29 = .ok (.iload_n 3, 1) := by decide +kernel
theorem dX9_refer_30 : decode cX9_refer 30 = .ok (.iconst (-1), 1) := by decide +kernel
theorem dX9_refer_31 : decode cX9_refer 31 = .ok (.if_icmp .eq 18, 3) := by decide +kernel
theorem dX9_refer_34 : decode cX9_refer 34 = .ok (.aload_n 0, 1) := by decide +kernel
theorem dX9_refer_35 : decode cX9_refer 35 = .ok (.iload_n 3, 1) := by decide +kernel
theorem dX9_refer_36 : decode cX9_refer 36 = .ok (.invokevirtual 157, 3) := by decide +kernel
theorem dX9_refer_39 : decode cX9_refer 39 = .ok (.ifCond .ne 10, 3) := by decide +kernel
theorem dX9_refer_42 : decode cX9_refer 42 = .ok (.aload_n 0, 1) := by decide +kernel
theorem dX9_refer_43 : decode cX9_refer 43 = .ok (.bipush (-2), 2) := by decide +kernel
theorem dX9_refer_45 : decode cX9_refer 45 = .ok (.invokevirtual 153, 3) := by decide +kernel
theorem dX9_refer_48 : decode cX9_refer 48 = .ok (.ireturn, 1) := by decide +kernel
theorem dX9_refer_49 : decode cX9_refer 49 = .ok (.aload_n 0, 1) := by decide +kernel
theorem dX9_refer_50 : decode cX9_refer 50 = .ok (.getfield 129, 3) := by decide +kernel
theorem dX9_refer_53 : decode cX9_refer 53 = .ok (.sipush 300, 3) := by decide +kernel
theorem dX9_refer_56 : decode cX9_refer 56 = .ok (.if_icmp .ne 10, 3) := by decide +kernel
theorem dX9_refer_59 : decode cX9_refer 59 = .ok (.aload_n 0, 1) := by decide +kernel
theorem dX9_refer_60 : decode cX9_refer 60 = .ok (.bipush (-5), 2) := by decide +kernel
theorem dX9_refer_62 : decode cX9_refer 62 = .ok (.invokevirtual 153, 3) := by decide +kernel
theorem dX9_refer_65 : decode cX9_refer 65 = .ok (.ireturn, 1) := by decide +kernel
theorem dX9_refer_66 : decode cX9_refer 66 = .ok (.aload_n 0, 1) := by decide +kernel
theorem dX9_refer_67 : decode cX9_refer 67 = .ok (.iconst 2, 1) := by decide +kernel
theorem dX9_refer_68 : decode cX9_refer 68 = .ok (.iload_n 1, 1) := by decide +kernel
theorem dX9_refer_69 : decode cX9_refer 69 = .ok (.iload_n 2, 1) := by decide +kernel
theorem dX9_refer_70 : decode cX9_refer 70 = .ok (.iload_n 3, 1) := by decide +kernel
theorem dX9_refer_71 : decode cX9_refer 71 = .ok (.iconst 0, 1) := by decide +kernel
theorem dX9_refer_72 : decode cX9_refer 72 = .ok (.iconst 0, 1) := by decide +kernel
theorem dX9_refer_73 : decode cX9_refer 73 = .ok (.invokevirtual 160, 3) := by decide +kernel
theorem dX9_refer_76 : decode cX9_refer 76 = .ok (.aload_n 0, 1) := by decide +kernel
theorem dX9_refer_77 : decode cX9_refer 77 = .ok (.iconst 0, 1) := by decide +kernel
theorem dX9_refer_78 : decode cX9_refer 78 = .ok (.invokevirtual 153, 3) := by decide +kernel
theorem dX9_refer_81 : decode cX9_refer 81 = .ok (.ireturn, 1) := by decide +kernel
theorem dX9_go_0 : decode cX9_go 0 = .ok (.aload_n 0, 1) := by decide +kernel
theorem dX9_go_1 : decode cX9_go 1 = .ok (.iconst 0, 1) := by decide +kernel
theorem dX9_go_2 : decode cX9_go 2 = .ok (.putfield 123, 3) := by decide +kernel
theorem dX9_go_5 : decode cX9_go 5 = .ok (.aload_n 0, 1) := by decide +kernel
theorem dX9_go_6 : decode cX9_go 6 = .ok (.iload_n 1, 1) := by decide +kernel
theorem dX9_go_7 : decode cX9_go 7 = .ok (.invokevirtual 157, 3) := by decide +kernel
theorem dX9_go_10 : decode cX9_go 10 = .ok (.ifCond .ne 10, 3) := by decide +kernel
theorem dX9_go_13 : decode cX9_go 13 = .ok (.aload_n 0, 1) := by decide +kernel
theorem dX9_go_14 : decode cX9_go 14 = .ok (.bipush (-2), 2) := by decide +kernel
theorem dX9_go_16 : decode cX9_go 16 = .ok (.invokevirtual 153, 3) := by decide +kernel
theorem dX9_go_19 : decode cX9_go 19 = .ok (.ireturn, 1) := by decide +kernel
theorem dX9_go_20 : decode cX9_go 20 = .ok (.aload_n 0, 1) := by decide +kernel
theorem dX9_go_21 : decode cX9_go 21 = .ok (.getfield 129, 3) := by decide +kernel
theorem dX9_go_24 : decode cX9_go 24 = .ok (.sipush 300, 3) := by decide +kernel
theorem dX9_go_27 : decode cX9_go 27 = .ok (.if_icmp .ne 10, 3) := by decide +kernel
theorem dX9_go_30 : decode cX9_go 30 = .ok (.aload_n 0, 1) := by decide +kernel
theorem dX9_go_31 : decode cX9_go 31 = .ok (.bipush (-5), 2) := by decide +kernel
theorem dX9_go_33 : decode cX9_go 33 = .ok (.invokevirtual 153, 3) := by decide +kernel
theorem dX9_go_36 : decode cX9_go 36 = .ok (.ireturn, 1) := by decide +kernel
theorem dX9_go_37 : decode cX9_go 37 = .ok (.aload_n 0, 1) := by decide +kernel
theorem dX9_go_38 : decode cX9_go 38 = .ok (.iconst 3, 1) := by decide +kernel
theorem dX9_go_39 : decode cX9_go 39 = .ok (.iload_n 1, 1) := by decide +kernel
theorem dX9_go_40 : decode cX9_go 40 = .ok (.iconst 0, 1) := by decide +kernel
theorem dX9_go_41 : decode cX9_go 41 = .ok (.iconst 0, 1) := by decide +kernel
theorem dX9_go_42 : decode cX9_go 42 = .ok (.iconst 0, 1) := by decide +kernel
theorem dX9_go_43 : decode cX9_go 43 = .ok (.iconst 0, 1) := by decide +kernel
theorem dX9_go_44 : decode cX9_go 44 = .ok (.invokevirtual 160, 3) := by decide +kernel
theorem dX9_go_47 : decode cX9_go 47 = .ok (.aload_n 0, 1) := by decide +kernel
theorem dX9_go_48 : decode cX9_go 48 = .ok (.iconst 0, 1) := by decide +kernel
theorem dX9_go_49 : decode cX9_go 49 = .ok (.invokevirtual 153, 3) := by decide +kernel
theorem dX9_go_52 : decode cX9_go 52 = .ok (.ireturn, 1) := by decide +kernel
theorem dX9_of_0 : decode cX9_of 0 = .ok (.aload_n 0, 1) := by decide +kernel
theorem dX9_of_1 : decode cX9_of 1 = .ok (.iconst 0, 1) := by decide +kernel
theorem dX9_of_2 : decode cX9_of 2 = .ok (.putfield 123, 3) := by decide +kernel
theorem dX9_of_5 : decode cX9_of 5 = .ok (.iload_n 1, 1) := by decide +kernel
theorem dX9_of_6 : decode cX9_of 6 = .ok (.i2l, 1) := by decide +kernel
theorem dX9_of_7 : decode cX9_of 7 = .ok (.lconst 0, 1) := by decide +kernel
theorem dX9_of_8 : decode cX9_of 8 = .ok (.aload_n 0, 1) := by decide +kernel
theorem dX9_of_9 : decode cX9_of 9 = .ok (.getfield 136, 3) := by decide +kernel
theorem dX9_of_12 : decode cX9_of 12 = .ok (.i2l, 1) := by decide +kernel
theorem dX9_of_13 : decode cX9_of 13 = .ok (.lconst 1, 1) := by decide +kernel
theorem dX9_of_14 : decode cX9_of 14 = .ok (.lsub, 1) := by decide +kernel
theorem dX9_of_15 : decode cX9_of 15 = .ok (.invokestatic 139, 3) := by decide +kernel
theorem dX9_of_18 : decode cX9_of 18 = .ok (.ifCond .ne 7, 3) := by decide +kernel
theorem dX9_of_21 : decode cX9_of 21 = .ok (.sipush (-5000), 3) := by decide +kernel
theorem dX9_of_24 : decode cX9_of 24 = .ok (.ireturn, 1) := by decide +kernel
theorem dX9_of_25 : decode cX9_of 25 = .ok (.iload_n 2, 1) := by decide +kernel
theorem dX9_of_26 : decode cX9_of 26 = .ok (.tableswitch 83 0 4 #[34, 41, 48, 57, 68], 34) := by decide +kernel
theorem dX9_of_60 : decode cX9_of 60 = .ok (.aload_n 0, 1) := by decide +kernel
theorem dX9_of_61 : decode cX9_of 61 = .ok (.getfield 28, 3) := by decide +kernel
theorem dX9_of_64 : decode cX9_of 64 = .ok (.iload_n 1, 1) := by decide +kernel
theorem dX9_of_65 : decode cX9_of 65 = .ok (.iaload, 1) := by decide +kernel
theorem dX9_of_66 : decode cX9_of 66 = .ok (.ireturn, 1) := by decide +kernel
theorem dX9_of_67 : decode cX9_of 67 = .ok (.aload_n 0, 1) := by decide +kernel
theorem dX9_of_68 : decode cX9_of 68 = .ok (.getfield 31, 3) := by decide +kernel
theorem dX9_of_71 : decode cX9_of 71 = .ok (.iload_n 1, 1) := by decide +kernel
theorem dX9_of_72 : decode cX9_of 72 = .ok (.iaload, 1) := by decide +kernel
theorem dX9_of_73 : decode cX9_of 73 = .ok (.ireturn, 1) := by decide +kernel
theorem dX9_of_74 : decode cX9_of 74 = .ok (.aload_n 0, 1) := by decide +kernel
theorem dX9_of_75 : decode cX9_of 75 = .ok (.getfield 34, 3) := by decide +kernel
theorem dX9_of_78 : decode cX9_of 78 = .ok (.iconst 2, 1) := by decide +kernel
theorem dX9_of_79 : decode cX9_of 79 = .ok (.iload_n 1, 1) := by decide +kernel
theorem dX9_of_80 : decode cX9_of 80 = .ok (.imul, 1) := by decide +kernel
theorem dX9_of_81 : decode cX9_of 81 = .ok (.iaload, 1) := by decide +kernel
theorem dX9_of_82 : decode cX9_of 82 = .ok (.ireturn, 1) := by decide +kernel
theorem dX9_of_83 : decode cX9_of 83 = .ok (.aload_n 0, 1) := by decide +kernel
theorem dX9_of_84 : decode cX9_of 84 = .ok (.getfield 34, 3) := by decide +kernel
theorem dX9_of_87 : decode cX9_of 87 = .ok (.iconst 2, 1) := by decide +kernel
theorem dX9_of_88 : decode cX9_of 88 = .ok (.iload_n 1, 1) := by decide +kernel
theorem dX9_of_89 : decode cX9_of 89 = .ok (.imul, 1) := by decide +kernel
theorem dX9_of_90 : decode cX9_of 90 = .ok (.iconst 1, 1) := by decide +kernel
theorem dX9_of_91 : decode cX9_of 91 = .ok (.iadd, 1) := by decide +kernel
theorem dX9_of_92 : decode cX9_of 92 = .ok (.iaload, 1) := by decide +kernel
theorem dX9_of_93 : decode cX9_of 93 = .ok (.ireturn, 1) := by decide +kernel
theorem dX9_of_94 : decode cX9_of 94 = .ok (.aload_n 0, 1) := by decide +kernel
theorem dX9_of_95 : decode cX9_of 95 = .ok (.getfield 37, 3) := by decide +kernel
theorem dX9_of_98 : decode cX9_of 98 = .ok (.iload_n 1, 1) := by decide +kernel
theorem dX9_of_99 : decode cX9_of 99 = .ok (.baload, 1) := by decide +kernel
theorem dX9_of_100 : decode cX9_of 100 = .ok (.ifCond .eq 7, 3) := by decide +kernel
theorem dX9_of_103 : decode cX9_of 103 = .ok (.iconst 1, 1) := by decide +kernel
theorem dX9_of_104 : decode cX9_of 104 = .ok (.goto 4, 3) := by decide +kernel
theorem dX9_of_107 : decode cX9_of 107 = .ok (.iconst 0, 1) := by decide +kernel
theorem dX9_of_108 : decode cX9_of 108 = .ok (.ireturn, 1) := by decide +kernel
theorem dX9_of_109 : decode cX9_of 109 = .ok (.sipush (-5000), 3) := by decide +kernel
theorem dX9_of_112 : decode cX9_of 112 = .ok (.ireturn, 1) := by decide +kernel
theorem dX9_four_0 : decode cX9_four 0 = .ok (.bipush 24, 2) := by decide +kernel
theorem dX9_four_2 : decode cX9_four 2 = .ok (.istore_n 2, 1) := by decide +kernel
theorem dX9_four_3 : decode cX9_four 3 = .ok (.iload_n 2, 1) := by decide +kernel
theorem dX9_four_4 : decode cX9_four 4 = .ok (.ifCond .lt 35, 3) := by decide +kernel
theorem dX9_four_7 : decode cX9_four 7 = .ok (.aload_n 0, 1) := by decide +kernel
theorem dX9_four_8 : decode cX9_four 8 = .ok (.getfield 83, 3) := by decide +kernel
theorem dX9_four_11 : decode cX9_four 11 = .ok (.aload_n 0, 1) := by decide +kernel
theorem dX9_four_12 : decode cX9_four 12 = .ok (.getfield 164, 3) := by decide +kernel
theorem dX9_four_15 : decode cX9_four 15 = .ok (.iload_n 1, 1) := by decide +kernel
theorem dX9_four_16 : decode cX9_four 16 = .ok (.iload_n 2, 1) := by decide +kernel
theorem dX9_four_17 : decode cX9_four 17 = .ok (.ishr, 1) := by decide +kernel
theorem dX9_four_18 : decode cX9_four 18 = .ok (.sipush 255, 3) := by decide +kernel
theorem dX9_four_21 : decode cX9_four 21 = .ok (.iand, 1) := by decide +kernel
theorem dX9_four_22 : decode cX9_four 22 = .ok (.iastore, 1) := by decide +kernel
theorem dX9_four_23 : decode cX9_four 23 = .ok (.aload_n 0, 1) := by decide +kernel
theorem dX9_four_24 : decode cX9_four 24 = .ok (.dup, 1) := by decide +kernel
theorem dX9_four_25 : decode cX9_four 25 = .ok (.getfield 164, 3) := by decide +kernel
theorem dX9_four_28 : decode cX9_four 28 = .ok (.iconst 1, 1) := by decide +kernel
theorem dX9_four_29 : decode cX9_four 29 = .ok (.iadd, 1) := by decide +kernel
theorem dX9_four_30 : decode cX9_four 30 = .ok (.putfield 164, 3) := by decide +kernel
theorem dX9_four_33 : decode cX9_four 33 = .ok (.iinc 2 (-8), 3) := by decide +kernel
theorem dX9_four_36 : decode cX9_four 36 = .ok (.goto (-33), 3) := by decide +kernel
theorem dX9_four_39 : decode cX9_four 39 = .ok (.return_, 1) := by decide +kernel
theorem dX9_feed_0 : decode cX9_feed 0 = .ok (.aload_n 0, 1) := by decide +kernel
theorem dX9_feed_1 : decode cX9_feed 1 = .ok (.iconst 0, 1) := by decide +kernel
theorem dX9_feed_2 : decode cX9_feed 2 = .ok (.putfield 123, 3) := by decide +kernel
theorem dX9_feed_5 : decode cX9_feed 5 = .ok (.aload_n 0, 1) := by decide +kernel
theorem dX9_feed_6 : decode cX9_feed 6 = .ok (.getfield 164, 3) := by decide +kernel
theorem dX9_feed_9 : decode cX9_feed 9 = .ok (.bipush 20, 2) := by decide +kernel
theorem dX9_feed_11 : decode cX9_feed 11 = .ok (.iadd, 1) := by decide +kernel
theorem dX9_feed_12 : decode cX9_feed 12 = .ok (.sipush 200, 3) := by decide +kernel
theorem dX9_feed_15 : decode cX9_feed 15 = .ok (.if_icmp .le 5, 3) := by decide +kernel
theorem dX9_feed_18 : decode cX9_feed 18 = .ok (.iconst (-1), 1) := by decide +kernel
theorem dX9_feed_19 : decode cX9_feed 19 = .ok (.ireturn, 1) := by decide +kernel
theorem dX9_feed_20 : decode cX9_feed 20 = .ok (.aload_n 0, 1) := by decide +kernel
theorem dX9_feed_21 : decode cX9_feed 21 = .ok (.iload_n 1, 1) := by decide +kernel
theorem dX9_feed_22 : decode cX9_feed 22 = .ok (.invokevirtual 167, 3) := by decide +kernel
theorem dX9_feed_25 : decode cX9_feed 25 = .ok (.aload_n 0, 1) := by decide +kernel
theorem dX9_feed_26 : decode cX9_feed 26 = .ok (.iload_n 2, 1) := by decide +kernel
theorem dX9_feed_27 : decode cX9_feed 27 = .ok (.invokevirtual 167, 3) := by decide +kernel
theorem dX9_feed_30 : decode cX9_feed 30 = .ok (.aload_n 0, 1) := by decide +kernel
theorem dX9_feed_31 : decode cX9_feed 31 = .ok (.iload_n 3, 1) := by decide +kernel
theorem dX9_feed_32 : decode cX9_feed 32 = .ok (.invokevirtual 167, 3) := by decide +kernel
theorem dX9_feed_35 : decode cX9_feed 35 = .ok (.aload_n 0, 1) := by decide +kernel
theorem dX9_feed_36 : decode cX9_feed 36 = .ok (.iload 4, 2) := by decide +kernel
theorem dX9_feed_38 : decode cX9_feed 38 = .ok (.invokevirtual 167, 3) := by decide +kernel
theorem dX9_feed_41 : decode cX9_feed 41 = .ok (.aload_n 0, 1) := by decide +kernel
theorem dX9_feed_42 : decode cX9_feed 42 = .ok (.iload 5, 2) := by decide +kernel
theorem dX9_feed_44 : decode cX9_feed 44 = .ok (.invokevirtual 167, 3) := by decide +kernel
theorem dX9_feed_47 : decode cX9_feed 47 = .ok (.aload_n 0, 1) := by decide +kernel
theorem dX9_feed_48 : decode cX9_feed 48 = .ok (.getfield 164, 3) := by decide +kernel
theorem dX9_feed_51 : decode cX9_feed 51 = .ok (.ireturn, 1) := by decide +kernel
theorem dX9_end_0 : decode cX9_end 0 = .ok (.aload_n 0, 1) := by decide +kernel
theorem dX9_end_1 : decode cX9_end 1 = .ok (.iconst 0, 1) := by decide +kernel
theorem dX9_end_2 : decode cX9_end 2 = .ok (.putfield 123, 3) := by decide +kernel
theorem dX9_end_5 : decode cX9_end 5 = .ok (.iload_n 1, 1) := by decide +kernel
theorem dX9_end_6 : decode cX9_end 6 = .ok (.ifCond .lt 11, 3) := by decide +kernel
theorem dX9_end_9 : decode cX9_end 9 = .ok (.iload_n 1, 1) := by decide +kernel
theorem dX9_end_10 : decode cX9_end 10 = .ok (.aload_n 0, 1) := by decide +kernel
theorem dX9_end_11 : decode cX9_end 11 = .ok (.getfield 164, 3) := by decide +kernel
theorem dX9_end_14 : decode cX9_end 14 = .ok (.if_icmp .le 5, 3) := by decide +kernel
theorem dX9_end_17 : decode cX9_end 17 = .ok (.iconst (-1), 1) := by decide +kernel
theorem dX9_end_18 : decode cX9_end 18 = .ok (.ireturn, 1) := by decide +kernel
theorem dX9_end_19 : decode cX9_end 19 = .ok (.aload_n 0, 1) := by decide +kernel
theorem dX9_end_20 : decode cX9_end 20 = .ok (.iload_n 1, 1) := by decide +kernel
theorem dX9_end_21 : decode cX9_end 21 = .ok (.putfield 164, 3) := by decide +kernel
theorem dX9_end_24 : decode cX9_end 24 = .ok (.iload_n 1, 1) := by decide +kernel
theorem dX9_end_25 : decode cX9_end 25 = .ok (.ireturn, 1) := by decide +kernel
theorem dX9_isSmall_0 : decode cX9_isSmall 0 = .ok (.iload_n 0, 1) := by decide +kernel
theorem dX9_isSmall_1 : decode cX9_isSmall 1 = .ok (.bipush 97, 2) := by decide +kernel
theorem dX9_isSmall_3 : decode cX9_isSmall 3 = .ok (.if_icmp .lt 13, 3) := by decide +kernel
theorem dX9_isSmall_6 : decode cX9_isSmall 6 = .ok (.iload_n 0, 1) := by decide +kernel
theorem dX9_isSmall_7 : decode cX9_isSmall 7 = .ok (.bipush 122, 2) := by decide +kernel
theorem dX9_isSmall_9 : decode cX9_isSmall 9 = .ok (.if_icmp .gt 7, 3) := by decide +kernel
theorem dX9_isSmall_12 : decode cX9_isSmall 12 = .ok (.iconst 1, 1) := by decide +kernel
theorem dX9_isSmall_13 : decode cX9_isSmall 13 = .ok (.goto 4, 3) := by decide +kernel
theorem dX9_isSmall_16 : decode cX9_isSmall 16 = .ok (.iconst 0, 1) := by decide +kernel
theorem dX9_isSmall_17 : decode cX9_isSmall 17 = .ok (.ireturn, 1) := by decide +kernel
theorem dX9_isDigit_0 : decode cX9_isDigit 0 = .ok (.iload_n 0, 1) := by decide +kernel
theorem dX9_isDigit_1 : decode cX9_isDigit 1 = .ok (.bipush 48, 2) := by decide +kernel
theorem dX9_isDigit_3 : decode cX9_isDigit 3 = .ok (.if_icmp .lt 13, 3) := by decide +kernel
theorem dX9_isDigit_6 : decode cX9_isDigit 6 = .ok (.iload_n 0, 1) := by decide +kernel
theorem dX9_isDigit_7 : decode cX9_isDigit 7 = .ok (.bipush 57, 2) := by decide +kernel
theorem dX9_isDigit_9 : decode cX9_isDigit 9 = .ok (.if_icmp .gt 7, 3) := by decide +kernel
theorem dX9_isDigit_12 : decode cX9_isDigit 12 = .ok (.iconst 1, 1) := by decide +kernel
theorem dX9_isDigit_13 : decode cX9_isDigit 13 = .ok (.goto 4, 3) := by decide +kernel
theorem dX9_isDigit_16 : decode cX9_isDigit 16 = .ok (.iconst 0, 1) := by decide +kernel
theorem dX9_isDigit_17 : decode cX9_isDigit 17 = .ok (.ireturn, 1) := by decide +kernel
theorem dX9_next_0 : decode cX9_next 0 = .ok (.aload_n 0, 1) := by decide +kernel
theorem dX9_next_1 : decode cX9_next 1 = .ok (.aload_n 0, 1) := by decide +kernel
theorem dX9_next_2 : decode cX9_next 2 = .ok (.getfield 170, 3) := by decide +kernel
theorem dX9_next_5 : decode cX9_next 5 = .ok (.putfield 173, 3) := by decide +kernel
theorem dX9_next_8 : decode cX9_next 8 = .ok (.aload_n 0, 1) := by decide +kernel
theorem dX9_next_9 : decode cX9_next 9 = .ok (.getfield 173, 3) := by decide +kernel
theorem dX9_next_12 : decode cX9_next 12 = .ok (.aload_n 0, 1) := by decide +kernel
theorem dX9_next_13 : decode cX9_next 13 = .ok (.getfield 164, 3) := by decide +kernel
theorem dX9_next_16 : decode cX9_next 16 = .ok (.if_icmp .ge 30, 3) := by decide +kernel
theorem dX9_next_19 : decode cX9_next 19 = .ok (.aload_n 0, 1) := by decide +kernel
theorem dX9_next_20 : decode cX9_next 20 = .ok (.getfield 83, 3) := by decide +kernel
theorem dX9_next_23 : decode cX9_next 23 = .ok (.aload_n 0, 1) := by decide +kernel
theorem dX9_next_24 : decode cX9_next 24 = .ok (.getfield 173, 3) := by decide +kernel
theorem dX9_next_27 : decode cX9_next 27 = .ok (.iaload, 1) := by decide +kernel
theorem dX9_next_28 : decode cX9_next 28 = .ok (.bipush 32, 2) := by decide +kernel
theorem dX9_next_30 : decode cX9_next 30 = .ok (.if_icmp .ne 16, 3) := by decide +kernel
theorem dX9_next_33 : decode cX9_next 33 = .ok (.aload_n 0, 1) := by decide +kernel
theorem dX9_next_34 : decode cX9_next 34 = .ok (.dup, 1) := by decide +kernel
theorem dX9_next_35 : decode cX9_next 35 = .ok (.getfield 173, 3) := by decide +kernel
theorem dX9_next_38 : decode cX9_next 38 = .ok (.iconst 1, 1) := by decide +kernel
theorem dX9_next_39 : decode cX9_next 39 = .ok (.iadd, 1) := by decide +kernel
theorem dX9_next_40 : decode cX9_next 40 = .ok (.putfield 173, 3) := by decide +kernel
theorem dX9_next_43 : decode cX9_next 43 = .ok (.goto (-35), 3) := by decide +kernel
theorem dX9_next_46 : decode cX9_next 46 = .ok (.aload_n 0, 1) := by decide +kernel
theorem dX9_next_47 : decode cX9_next 47 = .ok (.aload_n 0, 1) := by decide +kernel
theorem dX9_next_48 : decode cX9_next 48 = .ok (.getfield 173, 3) := by decide +kernel
theorem dX9_next_51 : decode cX9_next 51 = .ok (.putfield 170, 3) := by decide +kernel
theorem dX9_next_54 : decode cX9_next 54 = .ok (.aload_n 0, 1) := by decide +kernel
theorem dX9_next_55 : decode cX9_next 55 = .ok (.lconst 0, 1) := by decide +kernel
theorem dX9_next_56 : decode cX9_next 56 = .ok (.putfield 176, 3) := by decide +kernel
theorem dX9_next_59 : decode cX9_next 59 = .ok (.aload_n 0, 1) := by decide +kernel
theorem dX9_next_60 : decode cX9_next 60 = .ok (.aload_n 0, 1) := by decide +kernel
theorem dX9_next_61 : decode cX9_next 61 = .ok (.getfield 173, 3) := by decide +kernel
theorem dX9_next_64 : decode cX9_next 64 = .ok (.aload_n 0, 1) := by decide +kernel
theorem dX9_next_65 : decode cX9_next 65 = .ok (.getfield 164, 3) := by decide +kernel
theorem dX9_next_68 : decode cX9_next 68 = .ok (.if_icmp .ne 7, 3) := by decide +kernel
theorem dX9_next_71 : decode cX9_next 71 = .ok (.iconst 0, 1) := by decide +kernel
theorem dX9_next_72 : decode cX9_next 72 = .ok (.goto 42, 3) := by decide +kernel
theorem dX9_next_75 : decode cX9_next 75 = .ok (.aload_n 0, 1) := by decide +kernel
theorem dX9_next_76 : decode cX9_next 76 = .ok (.getfield 83, 3) := by decide +kernel
theorem dX9_next_79 : decode cX9_next 79 = .ok (.aload_n 0, 1) := by decide +kernel
theorem dX9_next_80 : decode cX9_next 80 = .ok (.getfield 173, 3) := by decide +kernel
theorem dX9_next_83 : decode cX9_next 83 = .ok (.iaload, 1) := by decide +kernel
theorem dX9_next_84 : decode cX9_next 84 = .ok (.invokestatic 180, 3) := by decide +kernel
theorem dX9_next_87 : decode cX9_next 87 = .ok (.ifCond .eq 7, 3) := by decide +kernel
theorem dX9_next_90 : decode cX9_next 90 = .ok (.iconst 1, 1) := by decide +kernel
theorem dX9_next_91 : decode cX9_next 91 = .ok (.goto 23, 3) := by decide +kernel
theorem dX9_next_94 : decode cX9_next 94 = .ok (.aload_n 0, 1) := by decide +kernel
theorem dX9_next_95 : decode cX9_next 95 = .ok (.getfield 83, 3) := by decide +kernel
theorem dX9_next_98 : decode cX9_next 98 = .ok (.aload_n 0, 1) := by decide +kernel
theorem dX9_next_99 : decode cX9_next 99 = .ok (.getfield 173, 3) := by decide +kernel
theorem dX9_next_102 : decode cX9_next 102 = .ok (.iaload, 1) := by decide +kernel
theorem dX9_next_103 : decode cX9_next 103 = .ok (.invokestatic 183, 3) := by decide +kernel
theorem dX9_next_106 : decode cX9_next 106 = .ok (.ifCond .eq 7, 3) := by decide +kernel
theorem dX9_next_109 : decode cX9_next 109 = .ok (.iconst 2, 1) := by decide +kernel
theorem dX9_next_110 : decode cX9_next 110 = .ok (.goto 4, 3) := by decide +kernel
theorem dX9_next_113 : decode cX9_next 113 = .ok (.iconst 3, 1) := by decide +kernel
theorem dX9_next_114 : decode cX9_next 114 = .ok (.putfield 186, 3) := by decide +kernel
theorem dX9_next_117 : decode cX9_next 117 = .ok (.aload_n 0, 1) := by decide +kernel
theorem dX9_next_118 : decode cX9_next 118 = .ok (.getfield 186, 3) := by decide +kernel
theorem dX9_next_121 : decode cX9_next 121 = .ok (.iconst 3, 1) := by decide +kernel
theorem dX9_next_122 : decode cX9_next 122 = .ok (.if_icmp .ne 27, 3) := by decide +kernel
theorem dX9_next_125 : decode cX9_next 125 = .ok (.aload_n 0, 1) := by decide +kernel
theorem dX9_next_126 : decode cX9_next 126 = .ok (.aload_n 0, 1) := by decide +kernel
theorem dX9_next_127 : decode cX9_next 127 = .ok (.getfield 83, 3) := by decide +kernel
theorem dX9_next_130 : decode cX9_next 130 = .ok (.aload_n 0, 1) := by decide +kernel
theorem dX9_next_131 : decode cX9_next 131 = .ok (.getfield 173, 3) := by decide +kernel
theorem dX9_next_134 : decode cX9_next 134 = .ok (.iaload, 1) := by decide +kernel
theorem dX9_next_135 : decode cX9_next 135 = .ok (.i2l, 1) := by decide +kernel
theorem dX9_next_136 : decode cX9_next 136 = .ok (.putfield 176, 3) := by decide +kernel
theorem dX9_next_139 : decode cX9_next 139 = .ok (.aload_n 0, 1) := by decide +kernel
theorem dX9_next_140 : decode cX9_next 140 = .ok (.dup, 1) := by decide +kernel
theorem dX9_next_141 : decode cX9_next 141 = .ok (.getfield 170, 3) := by decide +kernel
theorem dX9_next_144 : decode cX9_next 144 = .ok (.iconst 1, 1) := by decide +kernel
theorem dX9_next_145 : decode cX9_next 145 = .ok (.iadd, 1) := by decide +kernel
theorem dX9_next_146 : decode cX9_next 146 = .ok (.putfield 170, 3) := by decide +kernel
theorem dX9_next_149 : decode cX9_next 149 = .ok (.aload_n 0, 1) := by decide +kernel
theorem dX9_next_150 : decode cX9_next 150 = .ok (.getfield 186, 3) := by decide +kernel
theorem dX9_next_153 : decode cX9_next 153 = .ok (.iconst 1, 1) := by decide +kernel
theorem dX9_next_154 : decode cX9_next 154 = .ok (.if_icmp .ne 88, 3) := by decide +kernel
theorem dX9_next_157 : decode cX9_next 157 = .ok (.aload_n 0, 1) := by decide +kernel
theorem dX9_next_158 : decode cX9_next 158 = .ok (.getfield 170, 3) := by decide +kernel
theorem dX9_next_161 : decode cX9_next 161 = .ok (.aload_n 0, 1) := by decide +kernel
theorem dX9_next_162 : decode cX9_next 162 = .ok (.getfield 164, 3) := by decide +kernel
theorem dX9_next_165 : decode cX9_next 165 = .ok (.if_icmp .ge 77, 3) := by decide +kernel
theorem dX9_next_168 : decode cX9_next 168 = .ok (.aload_n 0, 1) := by decide +kernel
theorem dX9_next_169 : decode cX9_next 169 = .ok (.getfield 83, 3) := by decide +kernel
theorem dX9_next_172 : decode cX9_next 172 = .ok (.aload_n 0, 1) := by decide +kernel
theorem dX9_next_173 : decode cX9_next 173 = .ok (.getfield 170, 3) := by decide +kernel
theorem dX9_next_176 : decode cX9_next 176 = .ok (.iaload, 1) := by decide +kernel
theorem dX9_next_177 : decode cX9_next 177 = .ok (.invokestatic 180, 3) := by decide +kernel
theorem dX9_next_180 : decode cX9_next 180 = .ok (.ifCond .eq 62, 3) := by decide +kernel
theorem dX9_next_183 : decode cX9_next 183 = .ok (.aload_n 0, 1) := by decide +kernel
theorem dX9_next_184 : decode cX9_next 184 = .ok (.aload_n 0, 1) := by decide +kernel
theorem dX9_next_185 : decode cX9_next 185 = .ok (.getfield 170, 3) := by decide +kernel
theorem dX9_next_188 : decode cX9_next 188 = .ok (.aload_n 0, 1) := by decide +kernel
theorem dX9_next_189 : decode cX9_next 189 = .ok (.getfield 173, 3) := by decide +kernel
theorem dX9_next_192 : decode cX9_next 192 = .ok (.isub, 1) := by decide +kernel
theorem dX9_next_193 : decode cX9_next 193 = .ok (.iconst 5, 1) := by decide +kernel
theorem dX9_next_194 : decode cX9_next 194 = .ok (.if_icmp .ge 29, 3) := by decide +kernel
theorem dX9_next_197 : decode cX9_next 197 = .ok (.aload_n 0, 1) := by decide +kernel
theorem dX9_next_198 : decode cX9_next 198 = .ok (.getfield 176, 3) := by decide +kernel
theorem dX9_next_201 : decode cX9_next 201 = .ok (.ldc2_w 189, 3) := by decide +kernel
theorem dX9_next_204 : decode cX9_next 204 = .ok (.lmul, 1) := by decide +kernel
theorem dX9_next_205 : decode cX9_next 205 = .ok (.aload_n 0, 1) := by decide +kernel
theorem dX9_next_206 : decode cX9_next 206 = .ok (.getfield 83, 3) := by decide +kernel
theorem dX9_next_209 : decode cX9_next 209 = .ok (.aload_n 0, 1) := by decide +kernel
theorem dX9_next_210 : decode cX9_next 210 = .ok (.getfield 170, 3) := by decide +kernel
theorem dX9_next_213 : decode cX9_next 213 = .ok (.iaload, 1) := by decide +kernel
theorem dX9_next_214 : decode cX9_next 214 = .ok (.i2l, 1) := by decide +kernel
theorem dX9_next_215 : decode cX9_next 215 = .ok (.ladd, 1) := by decide +kernel
theorem dX9_next_216 : decode cX9_next 216 = .ok (.ldc2_w 191, 3) := by decide +kernel
theorem dX9_next_219 : decode cX9_next 219 = .ok (.lsub, 1) := by decide +kernel
theorem dX9_next_220 : decode cX9_next 220 = .ok (.goto 6, 3) := by decide +kernel
theorem dX9_next_223 : decode cX9_next 223 = .ok (.ldc2_w 193, 3) := by decide +kernel
theorem dX9_next_226 : decode cX9_next 226 = .ok (.putfield 176, 3) := by decide +kernel
theorem dX9_next_229 : decode cX9_next 229 = .ok (.aload_n 0, 1) := by decide +kernel
theorem dX9_next_230 : decode cX9_next 230 = .ok (.dup, 1) := by decide +kernel
theorem dX9_next_231 : decode cX9_next 231 = .ok (.getfield 170, 3) := by decide +kernel
theorem dX9_next_234 : decode cX9_next 234 = .ok (.iconst 1, 1) := by decide +kernel
theorem dX9_next_235 : decode cX9_next 235 = .ok (.iadd, 1) := by decide +kernel
theorem dX9_next_236 : decode cX9_next 236 = .ok (.putfield 170, 3) := by decide +kernel
theorem dX9_next_239 : decode cX9_next 239 = .ok (.goto (-90), 3) := by decide +kernel
theorem dX9_next_242 : decode cX9_next 242 = .ok (.aload_n 0, 1) := by decide +kernel
theorem dX9_next_243 : decode cX9_next 243 = .ok (.getfield 186, 3) := by decide +kernel
theorem dX9_next_246 : decode cX9_next 246 = .ok (.iconst 2, 1) := by decide +kernel
theorem dX9_next_247 : decode cX9_next 247 = .ok (.if_icmp .ne 87, 3) := by decide +kernel
theorem dX9_next_250 : decode cX9_next 250 = .ok (.aload_n 0, 1) := by decide +kernel
theorem dX9_next_251 : decode cX9_next 251 = .ok (.getfield 170, 3) := by decide +kernel
theorem dX9_next_254 : decode cX9_next 254 = .ok (.aload_n 0, 1) := by decide +kernel
theorem dX9_next_255 : decode cX9_next 255 = .ok (.getfield 164, 3) := by decide +kernel
theorem dX9_next_258 : decode cX9_next 258 = .ok (.if_icmp .ge 76, 3) := by decide +kernel
theorem dX9_next_261 : decode cX9_next 261 = .ok (.aload_n 0, 1) := by decide +kernel
theorem dX9_next_262 : decode cX9_next 262 = .ok (.getfield 83, 3) := by decide +kernel
theorem dX9_next_265 : decode cX9_next 265 = .ok (.aload_n 0, 1) := by decide +kernel
theorem dX9_next_266 : decode cX9_next 266 = .ok (.getfield 170, 3) := by decide +kernel
theorem dX9_next_269 : decode cX9_next 269 = .ok (.iaload, 1) := by decide +kernel
theorem dX9_next_270 : decode cX9_next 270 = .ok (.invokestatic 183, 3) := by decide +kernel
theorem dX9_next_273 : decode cX9_next 273 = .ok (.ifCond .eq 61, 3) := by decide +kernel
theorem dX9_next_276 : decode cX9_next 276 = .ok (.aload_n 0, 1) := by decide +kernel
theorem dX9_next_277 : decode cX9_next 277 = .ok (.aload_n 0, 1) := by decide +kernel
theorem dX9_next_278 : decode cX9_next 278 = .ok (.getfield 176, 3) := by decide +kernel
theorem dX9_next_281 : decode cX9_next 281 = .ok (.ldc2_w 145, 3) := by decide +kernel
theorem dX9_next_284 : decode cX9_next 284 = .ok (.lcmp, 1) := by decide +kernel
theorem dX9_next_285 : decode cX9_next 285 = .ok (.ifCond .le 10, 3) := by decide +kernel
theorem dX9_next_288 : decode cX9_next 288 = .ok (.aload_n 0, 1) := by decide +kernel
theorem dX9_next_289 : decode cX9_next 289 = .ok (.getfield 176, 3) := by decide +kernel
theorem dX9_next_292 : decode cX9_next 292 = .ok (.goto 26, 3) := by decide +kernel
theorem dX9_next_295 : decode cX9_next 295 = .ok (.aload_n 0, 1) := by decide +kernel
theorem dX9_next_296 : decode cX9_next 296 = .ok (.getfield 176, 3) := by decide +kernel
theorem dX9_next_299 : decode cX9_next 299 = .ok (.ldc2_w 195, 3) := by decide +kernel
theorem dX9_next_302 : decode cX9_next 302 = .ok (.lmul, 1) := by decide +kernel
theorem dX9_next_303 : decode cX9_next 303 = .ok (.aload_n 0, 1) := by decide +kernel
theorem dX9_next_304 : decode cX9_next 304 = .ok (.getfield 83, 3) := by decide +kernel
theorem dX9_next_307 : decode cX9_next 307 = .ok (.aload_n 0, 1) := by decide +kernel
theorem dX9_next_308 : decode cX9_next 308 = .ok (.getfield 170, 3) := by decide +kernel
theorem dX9_next_311 : decode cX9_next 311 = .ok (.iaload, 1) := by decide +kernel
theorem dX9_next_312 : decode cX9_next 312 = .ok (.i2l, 1) := by decide +kernel
theorem dX9_next_313 : decode cX9_next 313 = .ok (.ladd, 1) := by decide +kernel
theorem dX9_next_314 : decode cX9_next 314 = .ok (.ldc2_w 197, 3) := by decide +kernel
theorem dX9_next_317 : decode cX9_next 317 = .ok (.lsub, 1) := by decide +kernel
theorem dX9_next_318 : decode cX9_next 318 = .ok (.putfield 176, 3) := by decide +kernel
theorem dX9_next_321 : decode cX9_next 321 = .ok (.aload_n 0, 1) := by decide +kernel
theorem dX9_next_322 : decode cX9_next 322 = .ok (.dup, 1) := by decide +kernel
theorem dX9_next_323 : decode cX9_next 323 = .ok (.getfield 170, 3) := by decide +kernel
theorem dX9_next_326 : decode cX9_next 326 = .ok (.iconst 1, 1) := by decide +kernel
theorem dX9_next_327 : decode cX9_next 327 = .ok (.iadd, 1) := by decide +kernel
theorem dX9_next_328 : decode cX9_next 328 = .ok (.putfield 170, 3) := by decide +kernel
theorem dX9_next_331 : decode cX9_next 331 = .ok (.goto (-89), 3) := by decide +kernel
theorem dX9_next_334 : decode cX9_next 334 = .ok (.return_, 1) := by decide +kernel
theorem dX9_isWord_0 : decode cX9_isWord 0 = .ok (.iload_n 1, 1) := by decide +kernel
theorem dX9_isWord_1 : decode cX9_isWord 1 = .ok (.i2l, 1) := by decide +kernel
theorem dX9_isWord_2 : decode cX9_isWord 2 = .ok (.ldc2_w 191, 3) := by decide +kernel
theorem dX9_isWord_5 : decode cX9_isWord 5 = .ok (.lsub, 1) := by decide +kernel
theorem dX9_isWord_6 : decode cX9_isWord 6 = .ok (.lstore 5, 2) := by decide +kernel
theorem dX9_isWord_8 : decode cX9_isWord 8 = .ok (.iload_n 2, 1) := by decide +kernel
theorem dX9_isWord_9 : decode cX9_isWord 9 = .ok (.ifCond .ne 8, 3) := by decide +kernel
theorem dX9_isWord_12 : decode cX9_isWord 12 = .ok (.lload 5, 2) := by decide +kernel
theorem dX9_isWord_14 : decode cX9_isWord 14 = .ok (.goto 16, 3) := by decide +kernel
theorem dX9_isWord_17 : decode cX9_isWord 17 = .ok (.lload 5, 2) := by decide +kernel
theorem dX9_isWord_19 : decode cX9_isWord 19 = .ok (.ldc2_w 189, 3) := by decide +kernel
theorem dX9_isWord_22 : decode cX9_isWord 22 = .ok (.lmul, 1) := by decide +kernel
theorem dX9_isWord_23 : decode cX9_isWord 23 = .ok (.iload_n 2, 1) := by decide +kernel
theorem dX9_isWord_24 : decode cX9_isWord 24 = .ok (.i2l, 1) := by decide +kernel
theorem dX9_isWord_25 : decode cX9_isWord 25 = .ok (.ladd, 1) := by decide +kernel
theorem dX9_isWord_26 : decode cX9_isWord 26 = .ok (.ldc2_w 191, 3) := by decide +kernel
theorem dX9_isWord_29 : decode cX9_isWord 29 = .ok (.lsub, 1) := by decide +kernel
theorem dX9_isWord_30 : decode cX9_isWord 30 = .ok (.lstore 5, 2) := by decide +kernel
theorem dX9_isWord_32 : decode cX9_isWord 32 = .ok (.iload_n 3, 1) := by decide +kernel
theorem dX9_isWord_33 : decode cX9_isWord 33 = .ok (.ifCond .ne 8, 3) := by decide +kernel
theorem dX9_isWord_36 : decode cX9_isWord 36 = .ok (.lload 5, 2) := by decide +kernel
theorem dX9_isWord_38 : decode cX9_isWord 38 = .ok (.goto 16, 3) := by decide +kernel
theorem dX9_isWord_41 : decode cX9_isWord 41 = .ok (.lload 5, 2) := by decide +kernel
theorem dX9_isWord_43 : decode cX9_isWord 43 = .ok (.ldc2_w 189, 3) := by decide +kernel
theorem dX9_isWord_46 : decode cX9_isWord 46 = .ok (.lmul, 1) := by decide +kernel
theorem dX9_isWord_47 : decode cX9_isWord 47 = .ok (.iload_n 3, 1) := by decide +kernel
theorem dX9_isWord_48 : decode cX9_isWord 48 = .ok (.i2l, 1) := by decide +kernel
theorem dX9_isWord_49 : decode cX9_isWord 49 = .ok (.ladd, 1) := by decide +kernel
theorem dX9_isWord_50 : decode cX9_isWord 50 = .ok (.ldc2_w 191, 3) := by decide +kernel
theorem dX9_isWord_53 : decode cX9_isWord 53 = .ok (.lsub, 1) := by decide +kernel
theorem dX9_isWord_54 : decode cX9_isWord 54 = .ok (.lstore 5, 2) := by decide +kernel
theorem dX9_isWord_56 : decode cX9_isWord 56 = .ok (.iload 4, 2) := by decide +kernel
theorem dX9_isWord_58 : decode cX9_isWord 58 = .ok (.ifCond .ne 8, 3) := by decide +kernel
theorem dX9_isWord_61 : decode cX9_isWord 61 = .ok (.lload 5, 2) := by decide +kernel
theorem dX9_isWord_63 : decode cX9_isWord 63 = .ok (.goto 17, 3) := by decide +kernel
theorem dX9_isWord_66 : decode cX9_isWord 66 = .ok (.lload 5, 2) := by decide +kernel
theorem dX9_isWord_68 : decode cX9_isWord 68 = .ok (.ldc2_w 189, 3) := by decide +kernel
theorem dX9_isWord_71 : decode cX9_isWord 71 = .ok (.lmul, 1) := by decide +kernel
theorem dX9_isWord_72 : decode cX9_isWord 72 = .ok (.iload 4, 2) := by decide +kernel
theorem dX9_isWord_74 : decode cX9_isWord 74 = .ok (.i2l, 1) := by decide +kernel
theorem dX9_isWord_75 : decode cX9_isWord 75 = .ok (.ladd, 1) := by decide +kernel
theorem dX9_isWord_76 : decode cX9_isWord 76 = .ok (.ldc2_w 191, 3) := by decide +kernel
theorem dX9_isWord_79 : decode cX9_isWord 79 = .ok (.lsub, 1) := by decide +kernel
theorem dX9_isWord_80 : decode cX9_isWord 80 = .ok (.lstore 5, 2) := by decide +kernel
theorem dX9_isWord_82 : decode cX9_isWord 82 = .ok (.aload_n 0, 1) := by decide +kernel
theorem dX9_isWord_83 : decode cX9_isWord 83 = .ok (.getfield 186, 3) := by decide +kernel
theorem dX9_isWord_86 : decode cX9_isWord 86 = .ok (.iconst 1, 1) := by decide +kernel
theorem dX9_isWord_87 : decode cX9_isWord 87 = .ok (.if_icmp .ne 17, 3) := by decide +kernel
theorem dX9_isWord_90 : decode cX9_isWord 90 = .ok (.aload_n 0, 1) := by decide +kernel
theorem dX9_isWord_91 : decode cX9_isWord 91 = .ok (.getfield 176, 3) := by decide +kernel
theorem dX9_isWord_94 : decode cX9_isWord 94 = .ok (.lload 5, 2) := by decide +kernel
theorem dX9_isWord_96 : decode cX9_isWord 96 = .ok (.lcmp, 1) := by decide +kernel
theorem dX9_isWord_97 : decode cX9_isWord 97 = .ok (.ifCond .ne 7, 3) := by decide +kernel
theorem dX9_isWord_100 : decode cX9_isWord 100 = .ok (.iconst 1, 1) := by decide +kernel
theorem dX9_isWord_101 : decode cX9_isWord 101 = .ok (.goto 4, 3) := by decide +kernel
theorem dX9_isWord_104 : decode cX9_isWord 104 = .ok (.iconst 0, 1) := by decide +kernel
theorem dX9_isWord_105 : decode cX9_isWord 105 = .ok (.ireturn, 1) := by decide +kernel
theorem dX9_isSign_0 : decode cX9_isSign 0 = .ok (.aload_n 0, 1) := by decide +kernel
theorem dX9_isSign_1 : decode cX9_isSign 1 = .ok (.getfield 186, 3) := by decide +kernel
theorem dX9_isSign_4 : decode cX9_isSign 4 = .ok (.iconst 3, 1) := by decide +kernel
theorem dX9_isSign_5 : decode cX9_isSign 5 = .ok (.if_icmp .ne 17, 3) := by decide +kernel
theorem dX9_isSign_8 : decode cX9_isSign 8 = .ok (.aload_n 0, 1) := by decide +kernel
theorem dX9_isSign_9 : decode cX9_isSign 9 = .ok (.getfield 176, 3) := by decide +kernel
theorem dX9_isSign_12 : decode cX9_isSign 12 = .ok (.iload_n 1, 1) := by decide +kernel
theorem dX9_isSign_13 : decode cX9_isSign 13 = .ok (.i2l, 1) := by decide +kernel
theorem dX9_isSign_14 : decode cX9_isSign 14 = .ok (.lcmp, 1) := by decide +kernel
theorem dX9_isSign_15 : decode cX9_isSign 15 = .ok (.ifCond .ne 7, 3) := by decide +kernel
theorem dX9_isSign_18 : decode cX9_isSign 18 = .ok (.iconst 1, 1) := by decide +kernel
theorem dX9_isSign_19 : decode cX9_isSign 19 = .ok (.goto 4, 3) := by decide +kernel
theorem dX9_isSign_22 : decode cX9_isSign 22 = .ok (.iconst 0, 1) := by decide +kernel
theorem dX9_isSign_23 : decode cX9_isSign 23 = .ok (.ireturn, 1) := by decide +kernel
theorem dX9_must_0 : decode cX9_must 0 = .ok (.aload_n 0, 1) := by decide +kernel
theorem dX9_must_1 : decode cX9_must 1 = .ok (.getfield 199, 3) := by decide +kernel
theorem dX9_must_4 : decode cX9_must 4 = .ok (.ifCond .ne 20, 3) := by decide +kernel
theorem dX9_must_7 : decode cX9_must 7 = .ok (.iload_n 1, 1) := by decide +kernel
theorem dX9_must_8 : decode cX9_must 8 = .ok (.ifCond .ne 16, 3) := by decide +kernel
theorem dX9_must_11 : decode cX9_must 11 = .ok (.aload_n 0, 1) := by decide +kernel
theorem dX9_must_12 : decode cX9_must 12 = .ok (.iconst 1, 1) := by decide +kernel
theorem dX9_must_13 : decode cX9_must 13 = .ok (.putfield 199, 3) := by decide +kernel
theorem dX9_must_16 : decode cX9_must 16 = .ok (.aload_n 0, 1) := by decide +kernel
theorem dX9_must_17 : decode cX9_must 17 = .ok (.aload_n 0, 1) := by decide +kernel
theorem dX9_must_18 : decode cX9_must 18 = .ok (.getfield 173, 3) := by decide +kernel
theorem dX9_must_21 : decode cX9_must 21 = .ok (.putfield 86, 3) := by decide +kernel
theorem dX9_must_24 : decode cX9_must 24 = .ok (.aload_n 0, 1) := by decide +kernel
theorem dX9_must_25 : decode cX9_must 25 = .ok (.getfield 199, 3) := by decide +kernel
theorem dX9_must_28 : decode cX9_must 28 = .ok (.ifCond .ne 7, 3) := by decide +kernel
theorem dX9_must_31 : decode cX9_must 31 = .ok (.aload_n 0, 1) := by decide +kernel
theorem dX9_must_32 : decode cX9_must 32 = .ok (.invokevirtual 203, 3) := by decide +kernel
theorem dX9_must_35 : decode cX9_must 35 = .ok (.return_, 1) := by decide +kernel
theorem dX9_readPart_0 : decode cX9_readPart 0 = .ok (.aload_n 0, 1) := by decide +kernel
theorem dX9_readPart_1 : decode cX9_readPart 1 = .ok (.getfield 176, 3) := by decide +kernel
theorem dX9_readPart_4 : decode cX9_readPart 4 = .ok (.l2i, 1) := by decide +kernel
theorem dX9_readPart_5 : decode cX9_readPart 5 = .ok (.iconst 1, 1) := by decide +kernel
theorem dX9_readPart_6 : decode cX9_readPart 6 = .ok (.isub, 1) := by decide +kernel
theorem dX9_readPart_7 : decode cX9_readPart 7 = .ok (.istore_n 1, 1) := by decide +kernel
theorem dX9_readPart_8 : decode cX9_readPart 8 = .ok (.aload_n 0, 1) := by decide +kernel
theorem dX9_readPart_9 : decode cX9_readPart 9 = .ok (.aload_n 0, 1) := by decide +kernel
theorem dX9_readPart_10 : decode cX9_readPart 10 = .ok (.getfield 186, 3) := by decide +kernel
theorem dX9_readPart_13 : decode cX9_readPart 13 = .ok (.iconst 1, 1) := by decide +kernel
theorem dX9_readPart_14 : decode cX9_readPart 14 = .ok (.if_icmp .ne 30, 3) := by decide +kernel
theorem dX9_readPart_17 : decode cX9_readPart 17 = .ok (.aload_n 0, 1) := by decide +kernel
theorem dX9_readPart_18 : decode cX9_readPart 18 = .ok (.getfield 176, 3) := by decide +kernel
theorem dX9_readPart_21 : decode cX9_readPart 21 = .ok (.lconst 1, 1) := by decide +kernel
theorem dX9_readPart_22 : decode cX9_readPart 22 = .ok (.ldc2_w 206, 3) := by decide +kernel
theorem dX9_readPart_25 : decode cX9_readPart 25 = .ok (.invokestatic 139, 3) := by decide +kernel
theorem dX9_readPart_28 : decode cX9_readPart 28 = .ok (.ifCond .eq 16, 3) := by decide +kernel
theorem dX9_readPart_31 : decode cX9_readPart 31 = .ok (.aload_n 0, 1) := by decide +kernel
theorem dX9_readPart_32 : decode cX9_readPart 32 = .ok (.getfield 208, 3) := by decide +kernel
theorem dX9_readPart_35 : decode cX9_readPart 35 = .ok (.bipush 20, 2) := by decide +kernel
theorem dX9_readPart_37 : decode cX9_readPart 37 = .ok (.if_icmp .ge 7, 3) := by decide +kernel
theorem dX9_readPart_40 : decode cX9_readPart 40 = .ok (.iconst 1, 1) := by decide +kernel
theorem dX9_readPart_41 : decode cX9_readPart 41 = .ok (.goto 4, 3) := by decide +kernel
theorem dX9_readPart_44 : decode cX9_readPart 44 = .ok (.iconst 0, 1) := by decide +kernel
theorem dX9_readPart_45 : decode cX9_readPart 45 = .ok (.invokevirtual 211, 3) := by decide +kernel
theorem dX9_readPart_48 : decode cX9_readPart 48 = .ok (.aload_n 0, 1) := by decide +kernel
theorem dX9_readPart_49 : decode cX9_readPart 49 = .ok (.getfield 199, 3) := by decide +kernel
theorem dX9_readPart_52 : decode cX9_readPart 52 = .ok (.ifCond .eq 5, 3) := by decide +kernel
theorem dX9_readPart_55 : decode cX9_readPart 55 = .ok (.iconst 0, 1) := by decide +kernel
theorem dX9_readPart_56 : decode cX9_readPart 56 = .ok (.ireturn, 1) := by decide +kernel
theorem dX9_readPart_57 : decode cX9_readPart 57 = .ok (.aload_n 0, 1) := by decide +kernel
theorem dX9_readPart_58 : decode cX9_readPart 58 = .ok (.getfield 59, 3) := by decide +kernel
theorem dX9_readPart_61 : decode cX9_readPart 61 = .ok (.aload_n 0, 1) := by decide +kernel
theorem dX9_readPart_62 : decode cX9_readPart 62 = .ok (.getfield 208, 3) := by decide +kernel
theorem dX9_readPart_65 : decode cX9_readPart 65 = .ok (.iload_n 1, 1) := by decide +kernel
theorem dX9_readPart_66 : decode cX9_readPart 66 = .ok (.iastore, 1) := by decide +kernel
theorem dX9_readPart_67 : decode cX9_readPart 67 = .ok (.aload_n 0, 1) := by decide +kernel
theorem dX9_readPart_68 : decode cX9_readPart 68 = .ok (.getfield 62, 3) := by decide +kernel
theorem dX9_readPart_71 : decode cX9_readPart 71 = .ok (.aload_n 0, 1) := by decide +kernel
theorem dX9_readPart_72 : decode cX9_readPart 72 = .ok (.getfield 208, 3) := by decide +kernel
theorem dX9_readPart_75 : decode cX9_readPart 75 = .ok (.iconst (-1), 1) := by decide +kernel
theorem dX9_readPart_76 : decode cX9_readPart 76 = .ok (.iastore, 1) := by decide +kernel
theorem dX9_readPart_77 : decode cX9_readPart 77 = .ok (.aload_n 0, 1) := by decide +kernel
theorem dX9_readPart_78 : decode cX9_readPart 78 = .ok (.getfield 65, 3) := by decide +kernel
theorem dX9_readPart_81 : decode cX9_readPart 81 = .ok (.aload_n 0, 1) := by decide +kernel
theorem dX9_readPart_82 : decode cX9_readPart 82 = .ok (.getfield 208, 3) := by decide +kernel
theorem dX9_readPart_85 : decode cX9_readPart 85 = .ok (.iconst (-1), 1) := by decide +kernel
theorem dX9_readPart_86 : decode cX9_readPart 86 = .ok (.iastore, 1) := by decide +kernel
theorem dX9_readPart_87 : decode cX9_readPart 87 = .ok (.aload_n 0, 1) := by decide +kernel
theorem dX9_readPart_88 : decode cX9_readPart 88 = .ok (.dup, 1) := by decide +kernel
theorem dX9_readPart_89 : decode cX9_readPart 89 = .ok (.getfield 208, 3) := by decide +kernel
theorem dX9_readPart_92 : decode cX9_readPart 92 = .ok (.iconst 1, 1) := by decide +kernel
theorem dX9_readPart_93 : decode cX9_readPart 93 = .ok (.iadd, 1) := by decide +kernel
theorem dX9_readPart_94 : decode cX9_readPart 94 = .ok (.putfield 208, 3) := by decide +kernel
theorem dX9_readPart_97 : decode cX9_readPart 97 = .ok (.aload_n 0, 1) := by decide +kernel
theorem dX9_readPart_98 : decode cX9_readPart 98 = .ok (.bipush 123, 2) := by decide +kernel
theorem dX9_readPart_100 : decode cX9_readPart 100 = .ok (.invokevirtual 215, 3) := by decide +kernel
theorem dX9_readPart_103 : decode cX9_readPart 103 = .ok (.istore_n 2, 1) := by decide +kernel
theorem dX9_readPart_104 : decode cX9_readPart 104 = .ok (.iload_n 2, 1) := by decide +kernel
theorem dX9_readPart_105 : decode cX9_readPart 105 = .ok (.ifCond .eq 21, 3) := by decide +kernel
theorem dX9_readPart_108 : decode cX9_readPart 108 = .ok (.aload_n 0, 1) := by decide +kernel
theorem dX9_readPart_109 : decode cX9_readPart 109 = .ok (.aload_n 0, 1) := by decide +kernel
theorem dX9_readPart_110 : decode cX9_readPart 110 = .ok (.getfield 218, 3) := by decide +kernel
theorem dX9_readPart_113 : decode cX9_readPart 113 = .ok (.bipush 6, 2) := by decide +kernel
theorem dX9_readPart_115 : decode cX9_readPart 115 = .ok (.if_icmp .ge 7, 3) := by decide +kernel
theorem dX9_readPart_118 : decode cX9_readPart 118 = .ok (.iconst 1, 1) := by decide +kernel
theorem dX9_readPart_119 : decode cX9_readPart 119 = .ok (.goto 4, 3) := by decide +kernel
theorem dX9_readPart_122 : decode cX9_readPart 122 = .ok (.iconst 0, 1) := by decide +kernel
theorem dX9_readPart_123 : decode cX9_readPart 123 = .ok (.invokevirtual 211, 3) := by decide +kernel
theorem dX9_readPart_126 : decode cX9_readPart 126 = .ok (.iload_n 2, 1) := by decide +kernel
theorem dX9_readPart_127 : decode cX9_readPart 127 = .ok (.ifCond .eq 35, 3) := by decide +kernel
theorem dX9_readPart_130 : decode cX9_readPart 130 = .ok (.aload_n 0, 1) := by decide +kernel
theorem dX9_readPart_131 : decode cX9_readPart 131 = .ok (.getfield 199, 3) := by decide +kernel
theorem dX9_readPart_134 : decode cX9_readPart 134 = .ok (.ifCond .ne 28, 3) := by decide +kernel
theorem dX9_readPart_137 : decode cX9_readPart 137 = .ok (.aload_n 0, 1) := by decide +kernel
theorem dX9_readPart_138 : decode cX9_readPart 138 = .ok (.getfield 80, 3) := by decide +kernel
theorem dX9_readPart_141 : decode cX9_readPart 141 = .ok (.aload_n 0, 1) := by decide +kernel
theorem dX9_readPart_142 : decode cX9_readPart 142 = .ok (.getfield 218, 3) := by decide +kernel
theorem dX9_readPart_145 : decode cX9_readPart 145 = .ok (.aload_n 0, 1) := by decide +kernel
theorem dX9_readPart_146 : decode cX9_readPart 146 = .ok (.getfield 208, 3) := by decide +kernel
theorem dX9_readPart_149 : decode cX9_readPart 149 = .ok (.iconst 1, 1) := by decide +kernel
theorem dX9_readPart_150 : decode cX9_readPart 150 = .ok (.isub, 1) := by decide +kernel
theorem dX9_readPart_151 : decode cX9_readPart 151 = .ok (.iastore, 1) := by decide +kernel
theorem dX9_readPart_152 : decode cX9_readPart 152 = .ok (.aload_n 0, 1) := by decide +kernel
theorem dX9_readPart_153 : decode cX9_readPart 153 = .ok (.dup, 1) := by decide +kernel
theorem dX9_readPart_154 : decode cX9_readPart 154 = .ok (.getfield 218, 3) := by decide +kernel
theorem dX9_readPart_157 : decode cX9_readPart 157 = .ok (.iconst 1, 1) := by decide +kernel
theorem dX9_readPart_158 : decode cX9_readPart 158 = .ok (.iadd, 1) := by decide +kernel
theorem dX9_readPart_159 : decode cX9_readPart 159 = .ok (.putfield 218, 3) := by decide +kernel
theorem dX9_readPart_162 : decode cX9_readPart 162 = .ok (.iload_n 2, 1) := by decide +kernel
theorem dX9_readPart_163 : decode cX9_readPart 163 = .ok (.ireturn, 1) := by decide +kernel
theorem dX9_readItem_0 : decode cX9_readItem 0 = .ok (.aload_n 0, 1) := by decide +kernel
theorem dX9_readItem_1 : decode cX9_readItem 1 = .ok (.bipush 118, 2) := by decide +kernel
theorem dX9_readItem_3 : decode cX9_readItem 3 = .ok (.iconst 0, 1) := by decide +kernel
theorem dX9_readItem_4 : decode cX9_readItem 4 = .ok (.iconst 0, 1) := by decide +kernel
theorem dX9_readItem_5 : decode cX9_readItem 5 = .ok (.iconst 0, 1) := by decide +kernel
theorem dX9_readItem_6 : decode cX9_readItem 6 = .ok (.invokevirtual 221, 3) := by decide +kernel
theorem dX9_readItem_9 : decode cX9_readItem 9 = .ok (.ifCond .eq 7, 3) := by decide +kernel
theorem dX9_readItem_12 : decode cX9_readItem 12 = .ok (.iconst 0, 1) := by decide +kernel
theorem dX9_readItem_13 : decode cX9_readItem 13 = .ok (.goto 40, 3) := by decide +kernel
theorem dX9_readItem_16 : decode cX9_readItem 16 = .ok (.aload_n 0, 1) := by decide +kernel
theorem dX9_readItem_17 : decode cX9_readItem 17 = .ok (.bipush 117, 2) := by decide +kernel
theorem dX9_readItem_19 : decode cX9_readItem 19 = .ok (.bipush 112, 2) := by decide +kernel
theorem dX9_readItem_21 : decode cX9_readItem 21 = .ok (.iconst 0, 1) := by decide +kernel
theorem dX9_readItem_22 : decode cX9_readItem 22 = .ok (.iconst 0, 1) := by decide +kernel
theorem dX9_readItem_23 : decode cX9_readItem 23 = .ok (.invokevirtual 221, 3) := by decide +kernel
theorem dX9_readItem_26 : decode cX9_readItem 26 = .ok (.ifCond .eq 7, 3) := by decide +kernel
theorem dX9_readItem_29 : decode cX9_readItem 29 = .ok (.iconst 1, 1) := by decide +kernel
theorem dX9_readItem_30 : decode cX9_readItem 30 = .ok (.goto 23, 3) := by decide +kernel
theorem dX9_readItem_33 : decode cX9_readItem 33 = .ok (.aload_n 0, 1) := by decide +kernel
theorem dX9_readItem_34 : decode cX9_readItem 34 = .ok (.bipush 100, 2) := by decide +kernel
theorem dX9_readItem_36 : decode cX9_readItem 36 = .ok (.bipush 111, 2) := by decide +kernel
theorem dX9_readItem_38 : decode cX9_readItem 38 = .ok (.bipush 119, 2) := by decide +kernel
theorem dX9_readItem_40 : decode cX9_readItem 40 = .ok (.bipush 110, 2) := by decide +kernel
theorem dX9_readItem_42 : decode cX9_readItem 42 = .ok (.invokevirtual 221, 3) := by decide +kernel
theorem dX9_readItem_45 : decode cX9_readItem 45 = .ok (.ifCond .eq 7, 3) := by decide +kernel
theorem dX9_readItem_48 : decode cX9_readItem 48 = .ok (.iconst 2, 1) := by decide +kernel
theorem dX9_readItem_49 : decode cX9_readItem 49 = .ok (.goto 4, 3) := by decide +kernel
theorem dX9_readItem_52 : decode cX9_readItem 52 = .ok (.iconst (-1), 1) := by decide +kernel
theorem dX9_readItem_53 : decode cX9_readItem 53 = .ok (.istore_n 1, 1) := by decide +kernel
theorem dX9_readItem_54 : decode cX9_readItem 54 = .ok (.aload_n 0, 1) := by decide +kernel
theorem dX9_readItem_55 : decode cX9_readItem 55 = .ok (.iload_n 1, 1) := by decide +kernel
theorem dX9_readItem_56 : decode cX9_readItem 56 = .ok (.ifCond .lt 7, 3) := by decide +kernel
theorem dX9_readItem_59 : decode cX9_readItem 59 = .ok (.iconst 1, 1) := by decide +kernel
theorem dX9_readItem_60 : decode cX9_readItem 60 = .ok (.goto 4, 3) := by decide +kernel
theorem dX9_readItem_63 : decode cX9_readItem 63 = .ok (.iconst 0, 1) := by decide +kernel
theorem dX9_readItem_64 : decode cX9_readItem 64 = .ok (.invokevirtual 211, 3) := by decide +kernel
theorem dX9_readItem_67 : decode cX9_readItem 67 = .ok (.iconst 0, 1) := by decide +kernel
theorem dX9_readItem_68 : decode cX9_readItem 68 = .ok (.istore_n 2, 1) := by decide +kernel
theorem dX9_readItem_69 : decode cX9_readItem 69 = .ok (.iload_n 1, 1) := by decide +kernel
theorem dX9_readItem_70 : decode cX9_readItem 70 = .ok (.ifCond .le 35, 3) := by decide +kernel
theorem dX9_readItem_73 : decode cX9_readItem 73 = .ok (.aload_n 0, 1) := by decide +kernel
theorem dX9_readItem_74 : decode cX9_readItem 74 = .ok (.getfield 176, 3) := by decide +kernel
theorem dX9_readItem_77 : decode cX9_readItem 77 = .ok (.l2i, 1) := by decide +kernel
theorem dX9_readItem_78 : decode cX9_readItem 78 = .ok (.istore_n 2, 1) := by decide +kernel
theorem dX9_readItem_79 : decode cX9_readItem 79 = .ok (.aload_n 0, 1) := by decide +kernel
theorem dX9_readItem_80 : decode cX9_readItem 80 = .ok (.aload_n 0, 1) := by decide +kernel
theorem dX9_readItem_81 : decode cX9_readItem 81 = .ok (.getfield 186, 3) := by decide +kernel
theorem dX9_readItem_84 : decode cX9_readItem 84 = .ok (.iconst 2, 1) := by decide +kernel
theorem dX9_readItem_85 : decode cX9_readItem 85 = .ok (.if_icmp .ne 16, 3) := by decide +kernel
theorem dX9_readItem_88 : decode cX9_readItem 88 = .ok (.aload_n 0, 1) := by decide +kernel
theorem dX9_readItem_89 : decode cX9_readItem 89 = .ok (.getfield 176, 3) := by decide +kernel
theorem dX9_readItem_92 : decode cX9_readItem 92 = .ok (.lconst 1, 1) := by decide +kernel
theorem dX9_readItem_93 : decode cX9_readItem 93 = .ok (.lcmp, 1) := by decide +kernel
theorem dX9_readItem_94 : decode cX9_readItem 94 = .ok (.ifCond .gt 7, 3) := by decide +kernel
theorem dX9_readItem_97 : decode cX9_readItem 97 = .ok (.iconst 1, 1) := by decide +kernel
theorem dX9_readItem_98 : decode cX9_readItem 98 = .ok (.goto 4, 3) := by decide +kernel
theorem dX9_readItem_101 : decode cX9_readItem 101 = .ok (.iconst 0, 1) := by decide +kernel
theorem dX9_readItem_102 : decode cX9_readItem 102 = .ok (.invokevirtual 211, 3) := by decide +kernel
theorem dX9_readItem_105 : decode cX9_readItem 105 = .ok (.aload_n 0, 1) := by decide +kernel
theorem dX9_readItem_106 : decode cX9_readItem 106 = .ok (.getfield 199, 3) := by decide +kernel
theorem dX9_readItem_109 : decode cX9_readItem 109 = .ok (.ifCond .eq 5, 3) := by decide +kernel
theorem dX9_readItem_112 : decode cX9_readItem 112 = .ok (.iconst 0, 1) := by decide +kernel
theorem dX9_readItem_113 : decode cX9_readItem 113 = .ok (.ireturn, 1) := by decide +kernel
theorem dX9_readItem_114 : decode cX9_readItem 114 = .ok (.aload_n 0, 1) := by decide +kernel
theorem dX9_readItem_115 : decode cX9_readItem 115 = .ok (.getfield 80, 3) := by decide +kernel
theorem dX9_readItem_118 : decode cX9_readItem 118 = .ok (.aload_n 0, 1) := by decide +kernel
theorem dX9_readItem_119 : decode cX9_readItem 119 = .ok (.getfield 218, 3) := by decide +kernel
theorem dX9_readItem_122 : decode cX9_readItem 122 = .ok (.iconst 1, 1) := by decide +kernel
theorem dX9_readItem_123 : decode cX9_readItem 123 = .ok (.isub, 1) := by decide +kernel
theorem dX9_readItem_124 : decode cX9_readItem 124 = .ok (.iaload, 1) := by decide +kernel
theorem dX9_readItem_125 : decode cX9_readItem 125 = .ok (.istore_n 3, 1) := by decide +kernel
theorem dX9_readItem_126 : decode cX9_readItem 126 = .ok (.aload_n 0, 1) := by decide +kernel
theorem dX9_readItem_127 : decode cX9_readItem 127 = .ok (.getfield 225, 3) := by decide +kernel
theorem dX9_readItem_130 : decode cX9_readItem 130 = .ok (.istore 4, 2) := by decide +kernel
theorem dX9_readItem_132 : decode cX9_readItem 132 = .ok (.aload_n 0, 1) := by decide +kernel
theorem dX9_readItem_133 : decode cX9_readItem 133 = .ok (.getfield 68, 3) := by decide +kernel
theorem dX9_readItem_136 : decode cX9_readItem 136 = .ok (.iload 4, 2) := by decide +kernel
theorem dX9_readItem_138 : decode cX9_readItem 138 = .ok (.iload_n 1, 1) := by decide +kernel
theorem dX9_readItem_139 : decode cX9_readItem 139 = .ok (.iastore, 1) := by decide +kernel
theorem dX9_readItem_140 : decode cX9_readItem 140 = .ok (.aload_n 0, 1) := by decide +kernel
theorem dX9_readItem_141 : decode cX9_readItem 141 = .ok (.getfield 71, 3) := by decide +kernel
theorem dX9_readItem_144 : decode cX9_readItem 144 = .ok (.iload 4, 2) := by decide +kernel
theorem dX9_readItem_146 : decode cX9_readItem 146 = .ok (.iload_n 2, 1) := by decide +kernel
theorem dX9_readItem_147 : decode cX9_readItem 147 = .ok (.iastore, 1) := by decide +kernel
theorem dX9_readItem_148 : decode cX9_readItem 148 = .ok (.aload_n 0, 1) := by decide +kernel
theorem dX9_readItem_149 : decode cX9_readItem 149 = .ok (.getfield 74, 3) := by decide +kernel
theorem dX9_readItem_152 : decode cX9_readItem 152 = .ok (.iload 4, 2) := by decide +kernel
theorem dX9_readItem_154 : decode cX9_readItem 154 = .ok (.aload_n 0, 1) := by decide +kernel
theorem dX9_readItem_155 : decode cX9_readItem 155 = .ok (.getfield 208, 3) := by decide +kernel
theorem dX9_readItem_158 : decode cX9_readItem 158 = .ok (.iastore, 1) := by decide +kernel
theorem dX9_readItem_159 : decode cX9_readItem 159 = .ok (.aload_n 0, 1) := by decide +kernel
theorem dX9_readItem_160 : decode cX9_readItem 160 = .ok (.getfield 77, 3) := by decide +kernel
theorem dX9_readItem_163 : decode cX9_readItem 163 = .ok (.iload 4, 2) := by decide +kernel
theorem dX9_readItem_165 : decode cX9_readItem 165 = .ok (.iconst (-1), 1) := by decide +kernel
theorem dX9_readItem_166 : decode cX9_readItem 166 = .ok (.iastore, 1) := by decide +kernel
theorem dX9_readItem_167 : decode cX9_readItem 167 = .ok (.aload_n 0, 1) := by decide +kernel
theorem dX9_readItem_168 : decode cX9_readItem 168 = .ok (.dup, 1) := by decide +kernel
theorem dX9_readItem_169 : decode cX9_readItem 169 = .ok (.getfield 225, 3) := by decide +kernel
theorem dX9_readItem_172 : decode cX9_readItem 172 = .ok (.iconst 1, 1) := by decide +kernel
theorem dX9_readItem_173 : decode cX9_readItem 173 = .ok (.iadd, 1) := by decide +kernel
theorem dX9_readItem_174 : decode cX9_readItem 174 = .ok (.putfield 225, 3) := by decide +kernel
theorem dX9_readItem_177 : decode cX9_readItem 177 = .ok (.aload_n 0, 1) := by decide +kernel
theorem dX9_readItem_178 : decode cX9_readItem 178 = .ok (.getfield 65, 3) := by decide +kernel
theorem dX9_readItem_181 : decode cX9_readItem 181 = .ok (.iload_n 3, 1) := by decide +kernel
theorem dX9_readItem_182 : decode cX9_readItem 182 = .ok (.iaload, 1) := by decide +kernel
theorem dX9_readItem_183 : decode cX9_readItem 183 = .ok (.iconst (-1), 1) := by decide +kernel
theorem dX9_readItem_184 : decode cX9_readItem 184 = .ok (.if_icmp .ne 14, 3) := by decide +kernel
theorem dX9_readItem_187 : decode cX9_readItem 187 = .ok (.aload_n 0, 1) := by decide +kernel
theorem dX9_readItem_188 : decode cX9_readItem 188 = .ok (.getfield 62, 3) := by decide +kernel
theorem dX9_readItem_191 : decode cX9_readItem 191 = .ok (.iload_n 3, 1) := by decide +kernel
theorem dX9_readItem_192 : decode cX9_readItem 192 = .ok (.iload 4, 2) := by decide +kernel
theorem dX9_readItem_194 : decode cX9_readItem 194 = .ok (.iastore, 1) := by decide +kernel
theorem dX9_readItem_195 : decode cX9_readItem 195 = .ok (.goto 16, 3) := by decide +kernel
theorem dX9_readItem_198 : decode cX9_readItem 198 = .ok (.aload_n 0, 1) := by decide +kernel
theorem dX9_readItem_199 : decode cX9_readItem 199 = .ok (.getfield 77, 3) := by decide +kernel
theorem dX9_readItem_202 : decode cX9_readItem 202 = .ok (.aload_n 0, 1) := by decide +kernel
theorem dX9_readItem_203 : decode cX9_readItem 203 = .ok (.getfield 65, 3) := by decide +kernel
theorem dX9_readItem_206 : decode cX9_readItem 206 = .ok (.iload_n 3, 1) := by decide +kernel
theorem dX9_readItem_207 : decode cX9_readItem 207 = .ok (.iaload, 1) := by decide +kernel
theorem dX9_readItem_208 : decode cX9_readItem 208 = .ok (.iload 4, 2) := by decide +kernel
theorem dX9_readItem_210 : decode cX9_readItem 210 = .ok (.iastore, 1) := by decide +kernel
theorem dX9_readItem_211 : decode cX9_readItem 211 = .ok (.aload_n 0, 1) := by decide +kernel
theorem dX9_readItem_212 : decode cX9_readItem 212 = .ok (.getfield 65, 3) := by decide +kernel
theorem dX9_readItem_215 : decode cX9_readItem 215 = .ok (.iload_n 3, 1) := by decide +kernel
theorem dX9_readItem_216 : decode cX9_readItem 216 = .ok (.iload 4, 2) := by decide +kernel
theorem dX9_readItem_218 : decode cX9_readItem 218 = .ok (.iastore, 1) := by decide +kernel
theorem dX9_readItem_219 : decode cX9_readItem 219 = .ok (.iload_n 1, 1) := by decide +kernel
theorem dX9_readItem_220 : decode cX9_readItem 220 = .ok (.ifCond .le 14, 3) := by decide +kernel
theorem dX9_readItem_223 : decode cX9_readItem 223 = .ok (.aload_n 0, 1) := by decide +kernel
theorem dX9_readItem_224 : decode cX9_readItem 224 = .ok (.invokevirtual 228, 3) := by decide +kernel
theorem dX9_readItem_227 : decode cX9_readItem 227 = .ok (.ifCond .eq 7, 3) := by decide +kernel
theorem dX9_readItem_230 : decode cX9_readItem 230 = .ok (.iconst 1, 1) := by decide +kernel
theorem dX9_readItem_231 : decode cX9_readItem 231 = .ok (.goto 4, 3) := by decide +kernel
theorem dX9_readItem_234 : decode cX9_readItem 234 = .ok (.iconst 0, 1) := by decide +kernel
theorem dX9_readItem_235 : decode cX9_readItem 235 = .ok (.ireturn, 1) := by decide +kernel
theorem dX9_shape_0 : decode cX9_shape 0 = .ok (.aload_n 0, 1) := by decide +kernel
theorem dX9_shape_1 : decode cX9_shape 1 = .ok (.iconst 0, 1) := by decide +kernel
theorem dX9_shape_2 : decode cX9_shape 2 = .ok (.putfield 123, 3) := by decide +kernel
theorem dX9_shape_5 : decode cX9_shape 5 = .ok (.aload_n 0, 1) := by decide +kernel
theorem dX9_shape_6 : decode cX9_shape 6 = .ok (.iconst 0, 1) := by decide +kernel
theorem dX9_shape_7 : decode cX9_shape 7 = .ok (.putfield 170, 3) := by decide +kernel
theorem dX9_shape_10 : decode cX9_shape 10 = .ok (.aload_n 0, 1) := by decide +kernel
theorem dX9_shape_11 : decode cX9_shape 11 = .ok (.iconst 0, 1) := by decide +kernel
theorem dX9_shape_12 : decode cX9_shape 12 = .ok (.putfield 199, 3) := by decide +kernel
theorem dX9_shape_15 : decode cX9_shape 15 = .ok (.aload_n 0, 1) := by decide +kernel
theorem dX9_shape_16 : decode cX9_shape 16 = .ok (.iconst (-1), 1) := by decide +kernel
theorem dX9_shape_17 : decode cX9_shape 17 = .ok (.putfield 86, 3) := by decide +kernel
theorem dX9_shape_20 : decode cX9_shape 20 = .ok (.aload_n 0, 1) := by decide +kernel
theorem dX9_shape_21 : decode cX9_shape 21 = .ok (.iconst 0, 1) := by decide +kernel
theorem dX9_shape_22 : decode cX9_shape 22 = .ok (.putfield 208, 3) := by decide +kernel
theorem dX9_shape_25 : decode cX9_shape 25 = .ok (.aload_n 0, 1) := by decide +kernel
theorem dX9_shape_26 : decode cX9_shape 26 = .ok (.iconst 0, 1) := by decide +kernel
theorem dX9_shape_27 : decode cX9_shape 27 = .ok (.putfield 225, 3) := by decide +kernel
theorem dX9_shape_30 : decode cX9_shape 30 = .ok (.aload_n 0, 1) := by decide +kernel
theorem dX9_shape_31 : decode cX9_shape 31 = .ok (.iconst 0, 1) := by decide +kernel
theorem dX9_shape_32 : decode cX9_shape 32 = .ok (.putfield 218, 3) := by decide +kernel
theorem dX9_shape_35 : decode cX9_shape 35 = .ok (.aload_n 0, 1) := by decide +kernel
theorem dX9_shape_36 : decode cX9_shape 36 = .ok (.invokevirtual 203, 3) := by decide +kernel
theorem dX9_shape_39 : decode cX9_shape 39 = .ok (.aload_n 0, 1) := by decide +kernel
theorem dX9_shape_40 : decode cX9_shape 40 = .ok (.invokevirtual 228, 3) := by decide +kernel
theorem dX9_shape_43 : decode cX9_shape 43 = .ok (.istore_n 1, 1) := by decide +kernel
theorem dX9_shape_44 : decode cX9_shape 44 = .ok (.aload_n 0, 1) := by decide +kernel
theorem dX9_shape_45 : decode cX9_shape 45 = .ok (.getfield 199, 3) := by decide +kernel
theorem dX9_shape_48 : decode cX9_shape 48 = .ok (.ifCond .ne 63, 3) := by decide +kernel
theorem dX9_shape_51 : decode cX9_shape 51 = .ok (.aload_n 0, 1) := by decide +kernel
theorem dX9_shape_52 : decode cX9_shape 52 = .ok (.getfield 218, 3) := by decide +kernel
theorem dX9_shape_55 : decode cX9_shape 55 = .ok (.ifCond .le 56, 3) := by decide +kernel
theorem dX9_shape_58 : decode cX9_shape 58 = .ok (.iload_n 1, 1) := by decide +kernel
theorem dX9_shape_59 : decode cX9_shape 59 = .ok (.ifCond .eq 11, 3) := by decide +kernel
theorem dX9_shape_62 : decode cX9_shape 62 = .ok (.aload_n 0, 1) := by decide +kernel
theorem dX9_shape_63 : decode cX9_shape 63 = .ok (.invokevirtual 232, 3) := by decide +kernel
theorem dX9_shape_66 : decode cX9_shape 66 = .ok (.istore_n 1, 1) := by decide +kernel
theorem dX9_shape_67 : decode cX9_shape 67 = .ok (.goto (-23), 3) := by decide +kernel
theorem dX9_shape_70 : decode cX9_shape 70 = .ok (.aload_n 0, 1) := by decide +kernel
theorem dX9_shape_71 : decode cX9_shape 71 = .ok (.bipush 44, 2) := by decide +kernel
theorem dX9_shape_73 : decode cX9_shape 73 = .ok (.invokevirtual 215, 3) := by decide +kernel
theorem dX9_shape_76 : decode cX9_shape 76 = .ok (.ifCond .eq 12, 3) := by decide +kernel
theorem dX9_shape_79 : decode cX9_shape 79 = .ok (.aload_n 0, 1) := by decide +kernel
theorem dX9_shape_80 : decode cX9_shape 80 = .ok (.invokevirtual 203, 3) := by decide +kernel
theorem dX9_shape_83 : decode cX9_shape 83 = .ok (.iconst 1, 1) := by decide +kernel
theorem dX9_shape_84 : decode cX9_shape 84 = .ok (.istore_n 1, 1) := by decide +kernel
theorem dX9_shape_85 : decode cX9_shape 85 = .ok (.goto (-41), 3) := by decide +kernel
theorem dX9_shape_88 : decode cX9_shape 88 = .ok (.aload_n 0, 1) := by decide +kernel
theorem dX9_shape_89 : decode cX9_shape 89 = .ok (.aload_n 0, 1) := by decide +kernel
theorem dX9_shape_90 : decode cX9_shape 90 = .ok (.bipush 125, 2) := by decide +kernel
theorem dX9_shape_92 : decode cX9_shape 92 = .ok (.invokevirtual 215, 3) := by decide +kernel
theorem dX9_shape_95 : decode cX9_shape 95 = .ok (.invokevirtual 211, 3) := by decide +kernel
theorem dX9_shape_98 : decode cX9_shape 98 = .ok (.aload_n 0, 1) := by decide +kernel
theorem dX9_shape_99 : decode cX9_shape 99 = .ok (.dup, 1) := by decide +kernel
theorem dX9_shape_100 : decode cX9_shape 100 = .ok (.getfield 218, 3) := by decide +kernel
theorem dX9_shape_103 : decode cX9_shape 103 = .ok (.iconst 1, 1) := by decide +kernel
theorem dX9_shape_104 : decode cX9_shape 104 = .ok (.isub, 1) := by decide +kernel
theorem dX9_shape_105 : decode cX9_shape 105 = .ok (.putfield 218, 3) := by decide +kernel
theorem dX9_shape_108 : decode cX9_shape 108 = .ok (.goto (-64), 3) := by decide +kernel
theorem dX9_shape_111 : decode cX9_shape 111 = .ok (.aload_n 0, 1) := by decide +kernel
theorem dX9_shape_112 : decode cX9_shape 112 = .ok (.getfield 199, 3) := by decide +kernel
theorem dX9_shape_115 : decode cX9_shape 115 = .ok (.ifCond .ne 15, 3) := by decide +kernel
theorem dX9_shape_118 : decode cX9_shape 118 = .ok (.aload_n 0, 1) := by decide +kernel
theorem dX9_shape_119 : decode cX9_shape 119 = .ok (.getfield 186, 3) := by decide +kernel
theorem dX9_shape_122 : decode cX9_shape 122 = .ok (.ifCond .eq 8, 3) := by decide +kernel
theorem dX9_shape_125 : decode cX9_shape 125 = .ok (.aload_n 0, 1) := by decide +kernel
theorem dX9_shape_126 : decode cX9_shape 126 = .ok (.iconst 0, 1) := by decide +kernel
theorem dX9_shape_127 : decode cX9_shape 127 = .ok (.invokevirtual 211, 3) := by decide +kernel
theorem dX9_shape_130 : decode cX9_shape 130 = .ok (.aload_n 0, 1) := by decide +kernel
theorem dX9_shape_131 : decode cX9_shape 131 = .ok (.iconst 0, 1) := by decide +kernel
theorem dX9_shape_132 : decode cX9_shape 132 = .ok (.putfield 164, 3) := by decide +kernel
theorem dX9_shape_135 : decode cX9_shape 135 = .ok (.aload_n 0, 1) := by decide +kernel
theorem dX9_shape_136 : decode cX9_shape 136 = .ok (.getfield 199, 3) := by decide +kernel
theorem dX9_shape_139 : decode cX9_shape 139 = .ok (.ifCond .eq 10, 3) := by decide +kernel
theorem dX9_shape_142 : decode cX9_shape 142 = .ok (.aload_n 0, 1) := by decide +kernel
theorem dX9_shape_143 : decode cX9_shape 143 = .ok (.bipush (-6), 2) := by decide +kernel
theorem dX9_shape_145 : decode cX9_shape 145 = .ok (.invokevirtual 153, 3) := by decide +kernel
theorem dX9_shape_148 : decode cX9_shape 148 = .ok (.ireturn, 1) := by decide +kernel
theorem dX9_shape_149 : decode cX9_shape 149 = .ok (.aload_n 0, 1) := by decide +kernel
theorem dX9_shape_150 : decode cX9_shape 150 = .ok (.aload_n 0, 1) := by decide +kernel
theorem dX9_shape_151 : decode cX9_shape 151 = .ok (.getfield 208, 3) := by decide +kernel
theorem dX9_shape_154 : decode cX9_shape 154 = .ok (.putfield 235, 3) := by decide +kernel
theorem dX9_shape_157 : decode cX9_shape 157 = .ok (.iconst 0, 1) := by decide +kernel
theorem dX9_shape_158 : decode cX9_shape 158 = .ok (.istore_n 2, 1) := by decide +kernel
theorem dX9_shape_159 : decode cX9_shape 159 = .ok (.iload_n 2, 1) := by decide +kernel
theorem dX9_shape_160 : decode cX9_shape 160 = .ok (.aload_n 0, 1) := by decide +kernel
theorem dX9_shape_161 : decode cX9_shape 161 = .ok (.getfield 208, 3) := by decide +kernel
theorem dX9_shape_164 : decode cX9_shape 164 = .ok (.if_icmp .ge 33, 3) := by decide +kernel
theorem dX9_shape_167 : decode cX9_shape 167 = .ok (.aload_n 0, 1) := by decide +kernel
theorem dX9_shape_168 : decode cX9_shape 168 = .ok (.getfield 41, 3) := by decide +kernel
theorem dX9_shape_171 : decode cX9_shape 171 = .ok (.iload_n 2, 1) := by decide +kernel
theorem dX9_shape_172 : decode cX9_shape 172 = .ok (.aload_n 0, 1) := by decide +kernel
theorem dX9_shape_173 : decode cX9_shape 173 = .ok (.getfield 59, 3) := by decide +kernel
theorem dX9_shape_176 : decode cX9_shape 176 = .ok (.iload_n 2, 1) := by decide +kernel
theorem dX9_shape_177 : decode cX9_shape 177 = .ok (.iaload, 1) := by decide +kernel
theorem dX9_shape_178 : decode cX9_shape 178 = .ok (.iastore, 1) := by decide +kernel
theorem dX9_shape_179 : decode cX9_shape 179 = .ok (.aload_n 0, 1) := by decide +kernel
theorem dX9_shape_180 : decode cX9_shape 180 = .ok (.getfield 44, 3) := by decide +kernel
theorem dX9_shape_183 : decode cX9_shape 183 = .ok (.iload_n 2, 1) := by decide +kernel
theorem dX9_shape_184 : decode cX9_shape 184 = .ok (.aload_n 0, 1) := by decide +kernel
theorem dX9_shape_185 : decode cX9_shape 185 = .ok (.getfield 62, 3) := by decide +kernel
theorem dX9_shape_188 : decode cX9_shape 188 = .ok (.iload_n 2, 1) := by decide +kernel
theorem dX9_shape_189 : decode cX9_shape 189 = .ok (.iaload, 1) := by decide +kernel
theorem dX9_shape_190 : decode cX9_shape 190 = .ok (.iastore, 1) := by decide +kernel
theorem dX9_shape_191 : decode cX9_shape 191 = .ok (.iinc 2 1, 3) := by decide +kernel
theorem dX9_shape_194 : decode cX9_shape 194 = .ok (.goto (-35), 3) := by decide +kernel
theorem dX9_shape_197 : decode cX9_shape 197 = .ok (.iconst 0, 1) := by decide +kernel
theorem dX9_shape_198 : decode cX9_shape 198 = .ok (.istore_n 2, 1) := by decide +kernel
theorem dX9_shape_199 : decode cX9_shape 199 = .ok (.iload_n 2, 1) := by decide +kernel
theorem dX9_shape_200 : decode cX9_shape 200 = .ok (.aload_n 0, 1) := by decide +kernel
theorem dX9_shape_201 : decode cX9_shape 201 = .ok (.getfield 225, 3) := by decide +kernel
theorem dX9_shape_204 : decode cX9_shape 204 = .ok (.if_icmp .ge 57, 3) := by decide +kernel
theorem dX9_shape_207 : decode cX9_shape 207 = .ok (.aload_n 0, 1) := by decide +kernel
theorem dX9_shape_208 : decode cX9_shape 208 = .ok (.getfield 47, 3) := by decide +kernel
theorem dX9_shape_211 : decode cX9_shape 211 = .ok (.iload_n 2, 1) := by decide +kernel
theorem dX9_shape_212 : decode cX9_shape 212 = .ok (.aload_n 0, 1) := by decide +kernel
theorem dX9_shape_213 : decode cX9_shape 213 = .ok (.getfield 68, 3) := by decide +kernel
theorem dX9_shape_216 : decode cX9_shape 216 = .ok (.iload_n 2, 1) := by decide +kernel
theorem dX9_shape_217 : decode cX9_shape 217 = .ok (.iaload, 1) := by decide +kernel
theorem dX9_shape_218 : decode cX9_shape 218 = .ok (.iastore, 1) := by decide +kernel
theorem dX9_shape_219 : decode cX9_shape 219 = .ok (.aload_n 0, 1) := by decide +kernel
theorem dX9_shape_220 : decode cX9_shape 220 = .ok (.getfield 50, 3) := by decide +kernel
theorem dX9_shape_223 : decode cX9_shape 223 = .ok (.iload_n 2, 1) := by decide +kernel
theorem dX9_shape_224 : decode cX9_shape 224 = .ok (.aload_n 0, 1) := by decide +kernel
theorem dX9_shape_225 : decode cX9_shape 225 = .ok (.getfield 71, 3) := by decide +kernel
theorem dX9_shape_228 : decode cX9_shape 228 = .ok (.iload_n 2, 1) := by decide +kernel
theorem dX9_shape_229 : decode cX9_shape 229 = .ok (.iaload, 1) := by decide +kernel
theorem dX9_shape_230 : decode cX9_shape 230 = .ok (.iastore, 1) := by decide +kernel
theorem dX9_shape_231 : decode cX9_shape 231 = .ok (.aload_n 0, 1) := by decide +kernel
theorem dX9_shape_232 : decode cX9_shape 232 = .ok (.getfield 53, 3) := by decide +kernel
theorem dX9_shape_235 : decode cX9_shape 235 = .ok (.iload_n 2, 1) := by decide +kernel
theorem dX9_shape_236 : decode cX9_shape 236 = .ok (.aload_n 0, 1) := by decide +kernel
theorem dX9_shape_237 : decode cX9_shape 237 = .ok (.getfield 74, 3) := by decide +kernel
theorem dX9_shape_240 : decode cX9_shape 240 = .ok (.iload_n 2, 1) := by decide +kernel
theorem dX9_shape_241 : decode cX9_shape 241 = .ok (.iaload, 1) := by decide +kernel
theorem dX9_shape_242 : decode cX9_shape 242 = .ok (.iastore, 1) := by decide +kernel
theorem dX9_shape_243 : decode cX9_shape 243 = .ok (.aload_n 0, 1) := by decide +kernel
theorem dX9_shape_244 : decode cX9_shape 244 = .ok (.getfield 56, 3) := by decide +kernel
theorem dX9_shape_247 : decode cX9_shape 247 = .ok (.iload_n 2, 1) := by decide +kernel
theorem dX9_shape_248 : decode cX9_shape 248 = .ok (.aload_n 0, 1) := by decide +kernel
theorem dX9_shape_249 : decode cX9_shape 249 = .ok (.getfield 77, 3) := by decide +kernel
theorem dX9_shape_252 : decode cX9_shape 252 = .ok (.iload_n 2, 1) := by decide +kernel
theorem dX9_shape_253 : decode cX9_shape 253 = .ok (.iaload, 1) := by decide +kernel
theorem dX9_shape_254 : decode cX9_shape 254 = .ok (.iastore, 1) := by decide +kernel
theorem dX9_shape_255 : decode cX9_shape 255 = .ok (.iinc 2 1, 3) := by decide +kernel
theorem dX9_shape_258 : decode cX9_shape 258 = .ok (.goto (-59), 3) := by decide +kernel
theorem dX9_shape_261 : decode cX9_shape 261 = .ok (.aload_n 0, 1) := by decide +kernel
theorem dX9_shape_262 : decode cX9_shape 262 = .ok (.aload_n 0, 1) := by decide +kernel
theorem dX9_shape_263 : decode cX9_shape 263 = .ok (.getfield 235, 3) := by decide +kernel
theorem dX9_shape_266 : decode cX9_shape 266 = .ok (.invokevirtual 153, 3) := by decide +kernel
theorem dX9_shape_269 : decode cX9_shape 269 = .ok (.ireturn, 1) := by decide +kernel
theorem dX9_fault_0 : decode cX9_fault 0 = .ok (.aload_n 0, 1) := by decide +kernel
theorem dX9_fault_1 : decode cX9_fault 1 = .ok (.iconst 0, 1) := by decide +kernel
theorem dX9_fault_2 : decode cX9_fault 2 = .ok (.putfield 123, 3) := by decide +kernel
theorem dX9_fault_5 : decode cX9_fault 5 = .ok (.aload_n 0, 1) := by decide +kernel
theorem dX9_fault_6 : decode cX9_fault 6 = .ok (.getfield 86, 3) := by decide +kernel
theorem dX9_fault_9 : decode cX9_fault 9 = .ok (.ireturn, 1) := by decide +kernel
theorem dX9_write_0 : decode cX9_write 0 = .ok (.aload_n 0, 1) := by decide +kernel
theorem dX9_write_1 : decode cX9_write 1 = .ok (.getfield 238, 3) := by decide +kernel
theorem dX9_write_4 : decode cX9_write 4 = .ok (.sipush 600, 3) := by decide +kernel
theorem dX9_write_7 : decode cX9_write 7 = .ok (.if_icmp .ge 33, 3) := by decide +kernel
theorem dX9_write_10 : decode cX9_write 10 = .ok (.aload_n 0, 1) := by decide +kernel
theorem dX9_write_11 : decode cX9_write 11 = .ok (.getfield 90, 3) := by decide +kernel
theorem dX9_write_14 : decode cX9_write 14 = .ok (.aload_n 0, 1) := by decide +kernel
theorem dX9_write_15 : decode cX9_write 15 = .ok (.getfield 238, 3) := by decide +kernel
theorem dX9_write_18 : decode cX9_write 18 = .ok (.iload_n 1, 1) := by decide +kernel
theorem dX9_write_19 : decode cX9_write 19 = .ok (.iastore, 1) := by decide +kernel
theorem dX9_write_20 : decode cX9_write 20 = .ok (.aload_n 0, 1) := by decide +kernel
theorem dX9_write_21 : decode cX9_write 21 = .ok (.getfield 93, 3) := by decide +kernel
theorem dX9_write_24 : decode cX9_write 24 = .ok (.aload_n 0, 1) := by decide +kernel
theorem dX9_write_25 : decode cX9_write 25 = .ok (.getfield 238, 3) := by decide +kernel
theorem dX9_write_28 : decode cX9_write 28 = .ok (.iload_n 2, 1) := by decide +kernel
theorem dX9_write_29 : decode cX9_write 29 = .ok (.iastore, 1) := by decide +kernel
theorem dX9_write_30 : decode cX9_write 30 = .ok (.aload_n 0, 1) := by decide +kernel
theorem dX9_write_31 : decode cX9_write 31 = .ok (.dup, 1) := by decide +kernel
theorem dX9_write_32 : decode cX9_write 32 = .ok (.getfield 238, 3) := by decide +kernel
theorem dX9_write_35 : decode cX9_write 35 = .ok (.iconst 1, 1) := by decide +kernel
theorem dX9_write_36 : decode cX9_write 36 = .ok (.iadd, 1) := by decide +kernel
theorem dX9_write_37 : decode cX9_write 37 = .ok (.putfield 238, 3) := by decide +kernel
theorem dX9_write_40 : decode cX9_write 40 = .ok (.return_, 1) := by decide +kernel
theorem dX9_begin_0 : decode cX9_begin 0 = .ok (.aload_n 0, 1) := by decide +kernel
theorem dX9_begin_1 : decode cX9_begin 1 = .ok (.getfield 96, 3) := by decide +kernel
theorem dX9_begin_4 : decode cX9_begin 4 = .ok (.iload_n 2, 1) := by decide +kernel
theorem dX9_begin_5 : decode cX9_begin 5 = .ok (.baload, 1) := by decide +kernel
theorem dX9_begin_6 : decode cX9_begin 6 = .ok (.ifCond .eq 14, 3) := by decide +kernel
theorem dX9_begin_9 : decode cX9_begin 9 = .ok (.aload_n 0, 1) := by decide +kernel
theorem dX9_begin_10 : decode cX9_begin 10 = .ok (.sipush 20000, 3) := by decide +kernel
theorem dX9_begin_13 : decode cX9_begin 13 = .ok (.iload_n 2, 1) := by decide +kernel
theorem dX9_begin_14 : decode cX9_begin 14 = .ok (.iadd, 1) := by decide +kernel
theorem dX9_begin_15 : decode cX9_begin 15 = .ok (.iconst (-1), 1) := by decide +kernel
theorem dX9_begin_16 : decode cX9_begin 16 = .ok (.invokevirtual 241, 3) := by decide +kernel
theorem dX9_begin_19 : decode cX9_begin 19 = .ok (.return_, 1) := by decide +kernel
theorem dX9_begin_20 : decode cX9_begin 20 = .ok (.aload_n 0, 1) := by decide +kernel
theorem dX9_begin_21 : decode cX9_begin 21 = .ok (.getfield 96, 3) := by decide +kernel
theorem dX9_begin_24 : decode cX9_begin 24 = .ok (.iload_n 2, 1) := by decide +kernel
theorem dX9_begin_25 : decode cX9_begin 25 = .ok (.iconst 1, 1) := by decide +kernel
theorem dX9_begin_26 : decode cX9_begin 26 = .ok (.bastore, 1) := by decide +kernel
theorem dX9_begin_27 : decode cX9_begin 27 = .ok (.aload_n 0, 1) := by decide +kernel
theorem dX9_begin_28 : decode cX9_begin 28 = .ok (.sipush 10000, 3) := by decide +kernel
theorem dX9_begin_31 : decode cX9_begin 31 = .ok (.iload_n 2, 1) := by decide +kernel
theorem dX9_begin_32 : decode cX9_begin 32 = .ok (.iadd, 1) := by decide +kernel
theorem dX9_begin_33 : decode cX9_begin 33 = .ok (.iconst (-1), 1) := by decide +kernel
theorem dX9_begin_34 : decode cX9_begin 34 = .ok (.invokevirtual 241, 3) := by decide +kernel
theorem dX9_begin_37 : decode cX9_begin 37 = .ok (.aload_n 0, 1) := by decide +kernel
theorem dX9_begin_38 : decode cX9_begin 38 = .ok (.getfield 99, 3) := by decide +kernel
theorem dX9_begin_41 : decode cX9_begin 41 = .ok (.aload_n 0, 1) := by decide +kernel
theorem dX9_begin_42 : decode cX9_begin 42 = .ok (.getfield 245, 3) := by decide +kernel
theorem dX9_begin_45 : decode cX9_begin 45 = .ok (.iload_n 2, 1) := by decide +kernel
theorem dX9_begin_46 : decode cX9_begin 46 = .ok (.iastore, 1) := by decide +kernel
theorem dX9_begin_47 : decode cX9_begin 47 = .ok (.aload_n 0, 1) := by decide +kernel
theorem dX9_begin_48 : decode cX9_begin 48 = .ok (.getfield 102, 3) := by decide +kernel
theorem dX9_begin_51 : decode cX9_begin 51 = .ok (.aload_n 0, 1) := by decide +kernel
theorem dX9_begin_52 : decode cX9_begin 52 = .ok (.getfield 245, 3) := by decide +kernel
theorem dX9_begin_55 : decode cX9_begin 55 = .ok (.aload_n 0, 1) := by decide +kernel
theorem dX9_begin_56 : decode cX9_begin 56 = .ok (.getfield 44, 3) := by decide +kernel
theorem dX9_begin_59 : decode cX9_begin 59 = .ok (.iload_n 1, 1) := by decide +kernel
theorem dX9_begin_60 : decode cX9_begin 60 = .ok (.iaload, 1) := by decide +kernel
theorem dX9_begin_61 : decode cX9_begin 61 = .ok (.iastore, 1) := by decide +kernel
theorem dX9_begin_62 : decode cX9_begin 62 = .ok (.aload_n 0, 1) := by decide +kernel
theorem dX9_begin_63 : decode cX9_begin 63 = .ok (.getfield 105, 3) := by decide +kernel
theorem dX9_begin_66 : decode cX9_begin 66 = .ok (.aload_n 0, 1) := by decide +kernel
theorem dX9_begin_67 : decode cX9_begin 67 = .ok (.getfield 245, 3) := by decide +kernel
theorem dX9_begin_70 : decode cX9_begin 70 = .ok (.iconst 0, 1) := by decide +kernel
theorem dX9_begin_71 : decode cX9_begin 71 = .ok (.iastore, 1) := by decide +kernel
theorem dX9_begin_72 : decode cX9_begin 72 = .ok (.aload_n 0, 1) := by decide +kernel
theorem dX9_begin_73 : decode cX9_begin 73 = .ok (.dup, 1) := by decide +kernel
theorem dX9_begin_74 : decode cX9_begin 74 = .ok (.getfield 245, 3) := by decide +kernel
theorem dX9_begin_77 : decode cX9_begin 77 = .ok (.iconst 1, 1) := by decide +kernel
theorem dX9_begin_78 : decode cX9_begin 78 = .ok (.iadd, 1) := by decide +kernel
theorem dX9_begin_79 : decode cX9_begin 79 = .ok (.putfield 245, 3) := by decide +kernel
theorem dX9_begin_82 : decode cX9_begin 82 = .ok (.return_, 1) := by decide +kernel
theorem dX9_nextRow_0 : decode cX9_nextRow 0 = .ok (.aload_n 0, 1) := by decide +kernel
theorem dX9_nextRow_1 : decode cX9_nextRow 1 = .ok (.getfield 53, 3) := by decide +kernel
theorem dX9_nextRow_4 : decode cX9_nextRow 4 = .ok (.iload_n 1, 1) := by decide +kernel
theorem dX9_nextRow_5 : decode cX9_nextRow 5 = .ok (.iaload, 1) := by decide +kernel
theorem dX9_nextRow_6 : decode cX9_nextRow 6 = .ok (.istore 4, 2) := by decide +kernel
theorem dX9_nextRow_8 : decode cX9_nextRow 8 = .ok (.aload_n 0, 1) := by decide +kernel
theorem dX9_nextRow_9 : decode cX9_nextRow 9 = .ok (.getfield 47, 3) := by decide +kernel
theorem dX9_nextRow_12 : decode cX9_nextRow 12 = .ok (.iload_n 1, 1) := by decide +kernel
theorem dX9_nextRow_13 : decode cX9_nextRow 13 = .ok (.iaload, 1) := by decide +kernel
theorem dX9_nextRow_14 : decode cX9_nextRow 14 = .ok (.iconst 1, 1) := by decide +kernel
theorem dX9_nextRow_15 : decode cX9_nextRow 15 = .ok (.if_icmp .ne 64, 3) := by decide +kernel
theorem dX9_nextRow_18 : decode cX9_nextRow 18 = .ok (.aload_n 0, 1) := by decide +kernel
theorem dX9_nextRow_19 : decode cX9_nextRow 19 = .ok (.getfield 34, 3) := by decide +kernel
theorem dX9_nextRow_22 : decode cX9_nextRow 22 = .ok (.iconst 2, 1) := by decide +kernel
theorem dX9_nextRow_23 : decode cX9_nextRow 23 = .ok (.iload_n 2, 1) := by decide +kernel
theorem dX9_nextRow_24 : decode cX9_nextRow 24 = .ok (.imul, 1) := by decide +kernel
theorem dX9_nextRow_25 : decode cX9_nextRow 25 = .ok (.aload_n 0, 1) := by decide +kernel
theorem dX9_nextRow_26 : decode cX9_nextRow 26 = .ok (.getfield 50, 3) := by decide +kernel
theorem dX9_nextRow_29 : decode cX9_nextRow 29 = .ok (.iload_n 1, 1) := by decide +kernel
theorem dX9_nextRow_30 : decode cX9_nextRow 30 = .ok (.iaload, 1) := by decide +kernel
theorem dX9_nextRow_31 : decode cX9_nextRow 31 = .ok (.iadd, 1) := by decide +kernel
theorem dX9_nextRow_32 : decode cX9_nextRow 32 = .ok (.iaload, 1) := by decide +kernel
theorem dX9_nextRow_33 : decode cX9_nextRow 33 = .ok (.istore 5, 2) := by decide +kernel
theorem dX9_nextRow_35 : decode cX9_nextRow 35 = .ok (.iload_n 3, 1) := by decide +kernel
theorem dX9_nextRow_36 : decode cX9_nextRow 36 = .ok (.ifCond .ne 41, 3) := by decide +kernel
theorem dX9_nextRow_39 : decode cX9_nextRow 39 = .ok (.iload 5, 2) := by decide +kernel
theorem dX9_nextRow_41 : decode cX9_nextRow 41 = .ok (.iconst (-1), 1) := by decide +kernel
theorem dX9_nextRow_42 : decode cX9_nextRow 42 = .ok (.if_icmp .eq 35, 3) := by decide +kernel
theorem dX9_nextRow_45 : decode cX9_nextRow 45 = .ok (.aload_n 0, 1) := by decide +kernel
theorem dX9_nextRow_46 : decode cX9_nextRow 46 = .ok (.getfield 37, 3) := by decide +kernel
theorem dX9_nextRow_49 : decode cX9_nextRow 49 = .ok (.iload 5, 2) := by decide +kernel
theorem dX9_nextRow_51 : decode cX9_nextRow 51 = .ok (.baload, 1) := by decide +kernel
theorem dX9_nextRow_52 : decode cX9_nextRow 52 = .ok (.ifCond .eq 25, 3) := by decide +kernel
theorem dX9_nextRow_55 : decode cX9_nextRow 55 = .ok (.aload_n 0, 1) := by decide +kernel
theorem dX9_nextRow_56 : decode cX9_nextRow 56 = .ok (.getfield 28, 3) := by decide +kernel
theorem dX9_nextRow_59 : decode cX9_nextRow 59 = .ok (.iload 5, 2) := by decide +kernel
theorem dX9_nextRow_61 : decode cX9_nextRow 61 = .ok (.iaload, 1) := by decide +kernel
theorem dX9_nextRow_62 : decode cX9_nextRow 62 = .ok (.aload_n 0, 1) := by decide +kernel
theorem dX9_nextRow_63 : decode cX9_nextRow 63 = .ok (.getfield 41, 3) := by decide +kernel
theorem dX9_nextRow_66 : decode cX9_nextRow 66 = .ok (.iload 4, 2) := by decide +kernel
theorem dX9_nextRow_68 : decode cX9_nextRow 68 = .ok (.iaload, 1) := by decide +kernel
theorem dX9_nextRow_69 : decode cX9_nextRow 69 = .ok (.if_icmp .ne 8, 3) := by decide +kernel
theorem dX9_nextRow_72 : decode cX9_nextRow 72 = .ok (.iload 5, 2) := by decide +kernel
theorem dX9_nextRow_74 : decode cX9_nextRow 74 = .ok (.goto 4, 3) := by decide +kernel
theorem dX9_nextRow_77 : decode cX9_nextRow 77 = .ok (.iconst (-1), 1) := by decide +kernel
theorem dX9_nextRow_78 : decode cX9_nextRow 78 = .ok (.ireturn, 1) := by decide +kernel
theorem dX9_nextRow_79 : decode cX9_nextRow 79 = .ok (.iload_n 3, 1) := by decide +kernel
theorem dX9_nextRow_80 : decode cX9_nextRow 80 = .ok (.istore 5, 2) := by decide +kernel
theorem dX9_nextRow_82 : decode cX9_nextRow 82 = .ok (.iload 5, 2) := by decide +kernel
theorem dX9_nextRow_84 : decode cX9_nextRow 84 = .ok (.aload_n 0, 1) := by decide +kernel
theorem dX9_nextRow_85 : decode cX9_nextRow 85 = .ok (.getfield 136, 3) := by decide +kernel
theorem dX9_nextRow_88 : decode cX9_nextRow 88 = .ok (.if_icmp .ge 59, 3) := by decide +kernel
theorem dX9_nextRow_91 : decode cX9_nextRow 91 = .ok (.aload_n 0, 1) := by decide +kernel
theorem dX9_nextRow_92 : decode cX9_nextRow 92 = .ok (.getfield 37, 3) := by decide +kernel
theorem dX9_nextRow_95 : decode cX9_nextRow 95 = .ok (.iload 5, 2) := by decide +kernel
theorem dX9_nextRow_97 : decode cX9_nextRow 97 = .ok (.baload, 1) := by decide +kernel
theorem dX9_nextRow_98 : decode cX9_nextRow 98 = .ok (.ifCond .eq 43, 3) := by decide +kernel
theorem dX9_nextRow_101 : decode cX9_nextRow 101 = .ok (.aload_n 0, 1) := by decide +kernel
theorem dX9_nextRow_102 : decode cX9_nextRow 102 = .ok (.getfield 28, 3) := by decide +kernel
theorem dX9_nextRow_105 : decode cX9_nextRow 105 = .ok (.iload 5, 2) := by decide +kernel
theorem dX9_nextRow_107 : decode cX9_nextRow 107 = .ok (.iaload, 1) := by decide +kernel
theorem dX9_nextRow_108 : decode cX9_nextRow 108 = .ok (.aload_n 0, 1) := by decide +kernel
theorem dX9_nextRow_109 : decode cX9_nextRow 109 = .ok (.getfield 41, 3) := by decide +kernel
theorem dX9_nextRow_112 : decode cX9_nextRow 112 = .ok (.iload 4, 2) := by decide +kernel
theorem dX9_nextRow_114 : decode cX9_nextRow 114 = .ok (.iaload, 1) := by decide +kernel
theorem dX9_nextRow_115 : decode cX9_nextRow 115 = .ok (.if_icmp .ne 26, 3) := by decide +kernel
theorem dX9_nextRow_118 : decode cX9_nextRow 118 = .ok (.aload_n 0, 1) := by decide +kernel
theorem dX9_nextRow_119 : decode cX9_nextRow 119 = .ok (.getfield 34, 3) := by decide +kernel
theorem dX9_nextRow_122 : decode cX9_nextRow 122 = .ok (.iconst 2, 1) := by decide +kernel
theorem dX9_nextRow_123 : decode cX9_nextRow 123 = .ok (.iload 5, 2) := by decide +kernel
theorem dX9_nextRow_125 : decode cX9_nextRow 125 = .ok (.imul, 1) := by decide +kernel
theorem dX9_nextRow_126 : decode cX9_nextRow 126 = .ok (.aload_n 0, 1) := by decide +kernel
theorem dX9_nextRow_127 : decode cX9_nextRow 127 = .ok (.getfield 50, 3) := by decide +kernel
theorem dX9_nextRow_130 : decode cX9_nextRow 130 = .ok (.iload_n 1, 1) := by decide +kernel
theorem dX9_nextRow_131 : decode cX9_nextRow 131 = .ok (.iaload, 1) := by decide +kernel
theorem dX9_nextRow_132 : decode cX9_nextRow 132 = .ok (.iadd, 1) := by decide +kernel
theorem dX9_nextRow_133 : decode cX9_nextRow 133 = .ok (.iaload, 1) := by decide +kernel
theorem dX9_nextRow_134 : decode cX9_nextRow 134 = .ok (.iload_n 2, 1) := by decide +kernel
theorem dX9_nextRow_135 : decode cX9_nextRow 135 = .ok (.if_icmp .ne 6, 3) := by decide +kernel
theorem dX9_nextRow_138 : decode cX9_nextRow 138 = .ok (.iload 5, 2) := by decide +kernel
theorem dX9_nextRow_140 : decode cX9_nextRow 140 = .ok (.ireturn, 1) := by decide +kernel
theorem dX9_nextRow_141 : decode cX9_nextRow 141 = .ok (.iinc 5 1, 3) := by decide +kernel
theorem dX9_nextRow_144 : decode cX9_nextRow 144 = .ok (.goto (-62), 3) := by decide +kernel
theorem dX9_nextRow_147 : decode cX9_nextRow 147 = .ok (.iconst (-1), 1) := by decide +kernel
theorem dX9_nextRow_148 : decode cX9_nextRow 148 = .ok (.ireturn, 1) := by decide +kernel
theorem dX9_make_0 : decode cX9_make 0 = .ok (.aload_n 0, 1) := by decide +kernel
theorem dX9_make_1 : decode cX9_make 1 = .ok (.iconst 0, 1) := by decide +kernel
theorem dX9_make_2 : decode cX9_make 2 = .ok (.putfield 238, 3) := by decide +kernel
theorem dX9_make_5 : decode cX9_make 5 = .ok (.aload_n 0, 1) := by decide +kernel
theorem dX9_make_6 : decode cX9_make 6 = .ok (.iconst 0, 1) := by decide +kernel
theorem dX9_make_7 : decode cX9_make 7 = .ok (.putfield 245, 3) := by decide +kernel
theorem dX9_make_10 : decode cX9_make 10 = .ok (.iconst 0, 1) := by decide +kernel
theorem dX9_make_11 : decode cX9_make 11 = .ok (.istore_n 2, 1) := by decide +kernel
theorem dX9_make_12 : decode cX9_make 12 = .ok (.iload_n 2, 1) := by decide +kernel
theorem dX9_make_13 : decode cX9_make 13 = .ok (.bipush 60, 2) := by decide +kernel
theorem dX9_make_15 : decode cX9_make 15 = .ok (.if_icmp .ge 16, 3) := by decide +kernel
theorem dX9_make_18 : decode cX9_make 18 = .ok (.aload_n 0, 1) := by decide +kernel
theorem dX9_make_19 : decode cX9_make 19 = .ok (.getfield 96, 3) := by decide +kernel
theorem dX9_make_22 : decode cX9_make 22 = .ok (.iload_n 2, 1) := by decide +kernel
theorem dX9_make_23 : decode cX9_make 23 = .ok (.iconst 0, 1) := by decide +kernel
theorem dX9_make_24 : decode cX9_make 24 = .ok (.bastore, 1) := by decide +kernel
theorem dX9_make_25 : decode cX9_make 25 = .ok (.iinc 2 1, 3) := by decide +kernel
theorem dX9_make_28 : decode cX9_make 28 = .ok (.goto (-16), 3) := by decide +kernel
theorem dX9_make_31 : decode cX9_make 31 = .ok (.aload_n 0, 1) := by decide +kernel
theorem dX9_make_32 : decode cX9_make 32 = .ok (.getfield 235, 3) := by decide +kernel
theorem dX9_make_35 : decode cX9_make 35 = .ok (.ifCond .eq 26, 3) := by decide +kernel
theorem dX9_make_38 : decode cX9_make 38 = .ok (.aload_n 0, 1) := by decide +kernel
theorem dX9_make_39 : decode cX9_make 39 = .ok (.iload_n 1, 1) := by decide +kernel
theorem dX9_make_40 : decode cX9_make 40 = .ok (.invokevirtual 157, 3) := by decide +kernel
theorem dX9_make_43 : decode cX9_make 43 = .ok (.ifCond .eq 18, 3) := by decide +kernel
theorem dX9_make_46 : decode cX9_make 46 = .ok (.aload_n 0, 1) := by decide +kernel
theorem dX9_make_47 : decode cX9_make 47 = .ok (.getfield 28, 3) := by decide +kernel
theorem dX9_make_50 : decode cX9_make 50 = .ok (.iload_n 1, 1) := by decide +kernel
theorem dX9_make_51 : decode cX9_make 51 = .ok (.iaload, 1) := by decide +kernel
theorem dX9_make_52 : decode cX9_make 52 = .ok (.aload_n 0, 1) := by decide +kernel
theorem dX9_make_53 : decode cX9_make 53 = .ok (.getfield 41, 3) := by decide +kernel
theorem dX9_make_56 : decode cX9_make 56 = .ok (.iconst 0, 1) := by decide +kernel
theorem dX9_make_57 : decode cX9_make 57 = .ok (.iaload, 1) := by decide +kernel
theorem dX9_make_58 : decode cX9_make 58 = .ok (.if_icmp .eq 4, 3) := by decide +kernel
theorem dX9_make_61 : decode cX9_make 61 = .ok (.return_, 1) := by decide +kernel
theorem dX9_make_62 : decode cX9_make 62 = .ok (.aload_n 0, 1) := by decide +kernel
theorem dX9_make_63 : decode cX9_make 63 = .ok (.iconst 0, 1) := by decide +kernel
theorem dX9_make_64 : decode cX9_make 64 = .ok (.iload_n 1, 1) := by decide +kernel
theorem dX9_make_65 : decode cX9_make 65 = .ok (.invokevirtual 248, 3) := by decide +kernel
theorem dX9_make_68 : decode cX9_make 68 = .ok (.aload_n 0, 1) := by decide +kernel
theorem dX9_make_69 : decode cX9_make 69 = .ok (.getfield 245, 3) := by decide +kernel
theorem dX9_make_72 : decode cX9_make 72 = .ok (.ifCond .le 174, 3) := by decide +kernel
theorem dX9_make_75 : decode cX9_make 75 = .ok (.aload_n 0, 1) := by decide +kernel
theorem dX9_make_76 : decode cX9_make 76 = .ok (.getfield 245, 3) := by decide +kernel
theorem dX9_make_79 : decode cX9_make 79 = .ok (.iconst 1, 1) := by decide +kernel
theorem dX9_make_80 : decode cX9_make 80 = .ok (.isub, 1) := by decide +kernel
theorem dX9_make_81 : decode cX9_make 81 = .ok (.istore_n 2, 1) := by decide +kernel
theorem dX9_make_82 : decode cX9_make 82 = .ok (.aload_n 0, 1) := by decide +kernel
theorem dX9_make_83 : decode cX9_make 83 = .ok (.getfield 102, 3) := by decide +kernel
theorem dX9_make_86 : decode cX9_make 86 = .ok (.iload_n 2, 1) := by decide +kernel
theorem dX9_make_87 : decode cX9_make 87 = .ok (.iaload, 1) := by decide +kernel
theorem dX9_make_88 : decode cX9_make 88 = .ok (.istore_n 3, 1) := by decide +kernel
theorem dX9_make_89 : decode cX9_make 89 = .ok (.iload_n 3, 1) := by decide +kernel
theorem dX9_make_90 : decode cX9_make 90 = .ok (.iconst (-1), 1) := by decide +kernel
theorem dX9_make_91 : decode cX9_make 91 = .ok (.if_icmp .ne 24, 3) := by decide +kernel
theorem dX9_make_94 : decode cX9_make 94 = .ok (.aload_n 0, 1) := by decide +kernel
theorem dX9_make_95 : decode cX9_make 95 = .ok (.sipush 30000, 3) := by decide +kernel
theorem dX9_make_98 : decode cX9_make 98 = .ok (.iconst (-1), 1) := by decide +kernel
theorem dX9_make_99 : decode cX9_make 99 = .ok (.invokevirtual 241, 3) := by decide +kernel
theorem dX9_make_102 : decode cX9_make 102 = .ok (.aload_n 0, 1) := by decide +kernel
theorem dX9_make_103 : decode cX9_make 103 = .ok (.dup, 1) := by decide +kernel
theorem dX9_make_104 : decode cX9_make 104 = .ok (.getfield 245, 3) := by decide +kernel
theorem dX9_make_107 : decode cX9_make 107 = .ok (.iconst 1, 1) := by decide +kernel
theorem dX9_make_108 : decode cX9_make 108 = .ok (.isub, 1) := by decide +kernel
theorem dX9_make_109 : decode cX9_make 109 = .ok (.putfield 245, 3) := by decide +kernel
theorem dX9_make_112 : decode cX9_make 112 = .ok (.goto 131, 3) := by decide +kernel
theorem dX9_make_115 : decode cX9_make 115 = .ok (.aload_n 0, 1) := by decide +kernel
theorem dX9_make_116 : decode cX9_make 116 = .ok (.getfield 47, 3) := by decide +kernel
theorem dX9_make_119 : decode cX9_make 119 = .ok (.iload_n 3, 1) := by decide +kernel
theorem dX9_make_120 : decode cX9_make 120 = .ok (.iaload, 1) := by decide +kernel
theorem dX9_make_121 : decode cX9_make 121 = .ok (.ifCond .ne 39, 3) := by decide +kernel
theorem dX9_make_124 : decode cX9_make 124 = .ok (.aload_n 0, 1) := by decide +kernel
theorem dX9_make_125 : decode cX9_make 125 = .ok (.aload_n 0, 1) := by decide +kernel
theorem dX9_make_126 : decode cX9_make 126 = .ok (.getfield 31, 3) := by decide +kernel
theorem dX9_make_129 : decode cX9_make 129 = .ok (.aload_n 0, 1) := by decide +kernel
theorem dX9_make_130 : decode cX9_make 130 = .ok (.getfield 99, 3) := by decide +kernel
theorem dX9_make_133 : decode cX9_make 133 = .ok (.iload_n 2, 1) := by decide +kernel
theorem dX9_make_134 : decode cX9_make 134 = .ok (.iaload, 1) := by decide +kernel
theorem dX9_make_135 : decode cX9_make 135 = .ok (.iaload, 1) := by decide +kernel
theorem dX9_make_136 : decode cX9_make 136 = .ok (.aload_n 0, 1) := by decide +kernel
theorem dX9_make_137 : decode cX9_make 137 = .ok (.getfield 99, 3) := by decide +kernel
theorem dX9_make_140 : decode cX9_make 140 = .ok (.iload_n 2, 1) := by decide +kernel
theorem dX9_make_141 : decode cX9_make 141 = .ok (.iaload, 1) := by decide +kernel
theorem dX9_make_142 : decode cX9_make 142 = .ok (.invokevirtual 241, 3) := by decide +kernel
theorem dX9_make_145 : decode cX9_make 145 = .ok (.aload_n 0, 1) := by decide +kernel
theorem dX9_make_146 : decode cX9_make 146 = .ok (.getfield 102, 3) := by decide +kernel
theorem dX9_make_149 : decode cX9_make 149 = .ok (.iload_n 2, 1) := by decide +kernel
theorem dX9_make_150 : decode cX9_make 150 = .ok (.aload_n 0, 1) := by decide +kernel
theorem dX9_make_151 : decode cX9_make 151 = .ok (.getfield 56, 3) := by decide +kernel
theorem dX9_make_154 : decode cX9_make 154 = .ok (.iload_n 3, 1) := by decide +kernel
theorem dX9_make_155 : decode cX9_make 155 = .ok (.iaload, 1) := by decide +kernel
theorem dX9_make_156 : decode cX9_make 156 = .ok (.iastore, 1) := by decide +kernel
theorem dX9_make_157 : decode cX9_make 157 = .ok (.goto 86, 3) := by decide +kernel
theorem dX9_make_160 : decode cX9_make 160 = .ok (.aload_n 0, 1) := by decide +kernel
theorem dX9_make_161 : decode cX9_make 161 = .ok (.iload_n 3, 1) := by decide +kernel
theorem dX9_make_162 : decode cX9_make 162 = .ok (.aload_n 0, 1) := by decide +kernel
theorem dX9_make_163 : decode cX9_make 163 = .ok (.getfield 99, 3) := by decide +kernel
theorem dX9_make_166 : decode cX9_make 166 = .ok (.iload_n 2, 1) := by decide +kernel
theorem dX9_make_167 : decode cX9_make 167 = .ok (.iaload, 1) := by decide +kernel
theorem dX9_make_168 : decode cX9_make 168 = .ok (.aload_n 0, 1) := by decide +kernel
theorem dX9_make_169 : decode cX9_make 169 = .ok (.getfield 105, 3) := by decide +kernel
theorem dX9_make_172 : decode cX9_make 172 = .ok (.iload_n 2, 1) := by decide +kernel
theorem dX9_make_173 : decode cX9_make 173 = .ok (.iaload, 1) := by decide +kernel
theorem dX9_make_174 : decode cX9_make 174 = .ok (.invokevirtual 251, 3) := by decide +kernel
theorem dX9_make_177 : decode cX9_make 177 = .ok (.istore 4, 2) := by decide +kernel
theorem dX9_make_179 : decode cX9_make 179 = .ok (.iload 4, 2) := by decide +kernel
theorem dX9_make_181 : decode cX9_make 181 = .ok (.iconst (-1), 1) := by decide +kernel
theorem dX9_make_182 : decode cX9_make 182 = .ok (.if_icmp .ne 25, 3) := by decide +kernel
theorem dX9_make_185 : decode cX9_make 185 = .ok (.aload_n 0, 1) := by decide +kernel
theorem dX9_make_186 : decode cX9_make 186 = .ok (.getfield 102, 3) := by decide +kernel
theorem dX9_make_189 : decode cX9_make 189 = .ok (.iload_n 2, 1) := by decide +kernel
theorem dX9_make_190 : decode cX9_make 190 = .ok (.aload_n 0, 1) := by decide +kernel
theorem dX9_make_191 : decode cX9_make 191 = .ok (.getfield 56, 3) := by decide +kernel
theorem dX9_make_194 : decode cX9_make 194 = .ok (.iload_n 3, 1) := by decide +kernel
theorem dX9_make_195 : decode cX9_make 195 = .ok (.iaload, 1) := by decide +kernel
theorem dX9_make_196 : decode cX9_make 196 = .ok (.iastore, 1) := by decide +kernel
theorem dX9_make_197 : decode cX9_make 197 = .ok (.aload_n 0, 1) := by decide +kernel
theorem dX9_make_198 : decode cX9_make 198 = .ok (.getfield 105, 3) := by decide +kernel
theorem dX9_make_201 : decode cX9_make 201 = .ok (.iload_n 2, 1) := by decide +kernel
theorem dX9_make_202 : decode cX9_make 202 = .ok (.iconst 0, 1) := by decide +kernel
theorem dX9_make_203 : decode cX9_make 203 = .ok (.iastore, 1) := by decide +kernel
theorem dX9_make_204 : decode cX9_make 204 = .ok (.goto 39, 3) := by decide +kernel
theorem dX9_make_207 : decode cX9_make 207 = .ok (.aload_n 0, 1) := by decide +kernel
theorem dX9_make_208 : decode cX9_make 208 = .ok (.getfield 105, 3) := by decide +kernel
theorem dX9_make_211 : decode cX9_make 211 = .ok (.iload_n 2, 1) := by decide +kernel
theorem dX9_make_212 : decode cX9_make 212 = .ok (.aload_n 0, 1) := by decide +kernel
theorem dX9_make_213 : decode cX9_make 213 = .ok (.getfield 47, 3) := by decide +kernel
theorem dX9_make_216 : decode cX9_make 216 = .ok (.iload_n 3, 1) := by decide +kernel
theorem dX9_make_217 : decode cX9_make 217 = .ok (.iaload, 1) := by decide +kernel
theorem dX9_make_218 : decode cX9_make 218 = .ok (.iconst 1, 1) := by decide +kernel
theorem dX9_make_219 : decode cX9_make 219 = .ok (.if_icmp .ne 7, 3) := by decide +kernel
theorem dX9_make_222 : decode cX9_make 222 = .ok (.iconst 1, 1) := by decide +kernel
theorem dX9_make_223 : decode cX9_make 223 = .ok (.goto 7, 3) := by decide +kernel
theorem dX9_make_226 : decode cX9_make 226 = .ok (.iload 4, 2) := by decide +kernel
theorem dX9_make_228 : decode cX9_make 228 = .ok (.iconst 1, 1) := by decide +kernel
theorem dX9_make_229 : decode cX9_make 229 = .ok (.iadd, 1) := by decide +kernel
theorem dX9_make_230 : decode cX9_make 230 = .ok (.iastore, 1) := by decide +kernel
theorem dX9_make_231 : decode cX9_make 231 = .ok (.aload_n 0, 1) := by decide +kernel
theorem dX9_make_232 : decode cX9_make 232 = .ok (.aload_n 0, 1) := by decide +kernel
theorem dX9_make_233 : decode cX9_make 233 = .ok (.getfield 53, 3) := by decide +kernel
theorem dX9_make_236 : decode cX9_make 236 = .ok (.iload_n 3, 1) := by decide +kernel
theorem dX9_make_237 : decode cX9_make 237 = .ok (.iaload, 1) := by decide +kernel
theorem dX9_make_238 : decode cX9_make 238 = .ok (.iload 4, 2) := by decide +kernel
theorem dX9_make_240 : decode cX9_make 240 = .ok (.invokevirtual 248, 3) := by decide +kernel
theorem dX9_make_243 : decode cX9_make 243 = .ok (.goto (-175), 3) := by decide +kernel
theorem dX9_make_246 : decode cX9_make 246 = .ok (.return_, 1) := by decide +kernel
theorem dX9_size_0 : decode cX9_size 0 = .ok (.aload_n 0, 1) := by decide +kernel
theorem dX9_size_1 : decode cX9_size 1 = .ok (.iconst 0, 1) := by decide +kernel
theorem dX9_size_2 : decode cX9_size 2 = .ok (.putfield 123, 3) := by decide +kernel
theorem dX9_size_5 : decode cX9_size 5 = .ok (.aload_n 0, 1) := by decide +kernel
theorem dX9_size_6 : decode cX9_size 6 = .ok (.iload_n 1, 1) := by decide +kernel
theorem dX9_size_7 : decode cX9_size 7 = .ok (.invokevirtual 255, 3) := by decide +kernel
theorem dX9_size_10 : decode cX9_size 10 = .ok (.aload_n 0, 1) := by decide +kernel
theorem dX9_size_11 : decode cX9_size 11 = .ok (.getfield 238, 3) := by decide +kernel
theorem dX9_size_14 : decode cX9_size 14 = .ok (.ireturn, 1) := by decide +kernel
theorem dX9_mark_0 : decode cX9_mark 0 = .ok (.aload_n 0, 1) := by decide +kernel
theorem dX9_mark_1 : decode cX9_mark 1 = .ok (.iconst 0, 1) := by decide +kernel
theorem dX9_mark_2 : decode cX9_mark 2 = .ok (.putfield 123, 3) := by decide +kernel
theorem dX9_mark_5 : decode cX9_mark 5 = .ok (.aload_n 0, 1) := by decide +kernel
theorem dX9_mark_6 : decode cX9_mark 6 = .ok (.iload_n 1, 1) := by decide +kernel
theorem dX9_mark_7 : decode cX9_mark 7 = .ok (.invokevirtual 255, 3) := by decide +kernel
theorem dX9_mark_10 : decode cX9_mark 10 = .ok (.iload_n 2, 1) := by decide +kernel
theorem dX9_mark_11 : decode cX9_mark 11 = .ok (.i2l, 1) := by decide +kernel
theorem dX9_mark_12 : decode cX9_mark 12 = .ok (.lconst 0, 1) := by decide +kernel
theorem dX9_mark_13 : decode cX9_mark 13 = .ok (.aload_n 0, 1) := by decide +kernel
theorem dX9_mark_14 : decode cX9_mark 14 = .ok (.getfield 238, 3) := by decide +kernel
theorem dX9_mark_17 : decode cX9_mark 17 = .ok (.i2l, 1) := by decide +kernel
theorem dX9_mark_18 : decode cX9_mark 18 = .ok (.lconst 1, 1) := by decide +kernel
theorem dX9_mark_19 : decode cX9_mark 19 = .ok (.lsub, 1) := by decide +kernel
theorem dX9_mark_20 : decode cX9_mark 20 = .ok (.invokestatic 139, 3) := by decide +kernel
theorem dX9_mark_23 : decode cX9_mark 23 = .ok (.ifCond .eq 12, 3) := by decide +kernel
theorem dX9_mark_26 : decode cX9_mark 26 = .ok (.aload_n 0, 1) := by decide +kernel
theorem dX9_mark_27 : decode cX9_mark 27 = .ok (.getfield 90, 3) := by decide +kernel
theorem dX9_mark_30 : decode cX9_mark 30 = .ok (.iload_n 2, 1) := by decide +kernel
theorem dX9_mark_31 : decode cX9_mark 31 = .ok (.iaload, 1) := by decide +kernel
theorem dX9_mark_32 : decode cX9_mark 32 = .ok (.goto 6, 3) := by decide +kernel
theorem dX9_mark_35 : decode cX9_mark 35 = .ok (.sipush (-5000), 3) := by decide +kernel
theorem dX9_mark_38 : decode cX9_mark 38 = .ok (.ireturn, 1) := by decide +kernel
theorem dX9_page_0 : decode cX9_page 0 = .ok (.aload_n 0, 1) := by decide +kernel
theorem dX9_page_1 : decode cX9_page 1 = .ok (.iconst 0, 1) := by decide +kernel
theorem dX9_page_2 : decode cX9_page 2 = .ok (.putfield 123, 3) := by decide +kernel
theorem dX9_page_5 : decode cX9_page 5 = .ok (.iload_n 2, 1) := by decide +kernel
theorem dX9_page_6 : decode cX9_page 6 = .ok (.i2l, 1) := by decide +kernel
theorem dX9_page_7 : decode cX9_page 7 = .ok (.lconst 1, 1) := by decide +kernel
theorem dX9_page_8 : decode cX9_page 8 = .ok (.ldc2_w 258, 3) := by decide +kernel
theorem dX9_page_11 : decode cX9_page 11 = .ok (.invokestatic 139, 3) := by decide +kernel
theorem dX9_page_14 : decode cX9_page 14 = .ok (.ifCond .eq 19, 3) := by decide +kernel
theorem dX9_page_17 : decode cX9_page 17 = .ok (.iload_n 3, 1) := by decide +kernel
theorem dX9_page_18 : decode cX9_page 18 = .ok (.i2l, 1) := by decide +kernel
theorem dX9_page_19 : decode cX9_page 19 = .ok (.lconst 0, 1) := by decide +kernel
theorem dX9_page_20 : decode cX9_page 20 = .ok (.ldc2_w 260, 3) := by decide +kernel
theorem dX9_page_23 : decode cX9_page 23 = .ok (.invokestatic 139, 3) := by decide +kernel
theorem dX9_page_26 : decode cX9_page 26 = .ok (.ifCond .eq 7, 3) := by decide +kernel
theorem dX9_page_29 : decode cX9_page 29 = .ok (.iconst 1, 1) := by decide +kernel
theorem dX9_page_30 : decode cX9_page 30 = .ok (.goto 4, 3) := by decide +kernel
theorem dX9_page_33 : decode cX9_page 33 = .ok (.iconst 0, 1) := by decide +kernel
theorem dX9_page_34 : decode cX9_page 34 = .ok (.istore 5, 2) := by decide +kernel
theorem dX9_page_36 : decode cX9_page 36 = .ok (.aload_n 0, 1) := by decide +kernel
theorem dX9_page_37 : decode cX9_page 37 = .ok (.iload_n 1, 1) := by decide +kernel
theorem dX9_page_38 : decode cX9_page 38 = .ok (.invokevirtual 255, 3) := by decide +kernel
theorem dX9_page_41 : decode cX9_page 41 = .ok (.iload 5, 2) := by decide +kernel
theorem dX9_page_43 : decode cX9_page 43 = .ok (.ifCond .eq 14, 3) := by decide +kernel
theorem dX9_page_46 : decode cX9_page 46 = .ok (.aload_n 0, 1) := by decide +kernel
theorem dX9_page_47 : decode cX9_page 47 = .ok (.getfield 238, 3) := by decide +kernel
theorem dX9_page_50 : decode cX9_page 50 = .ok (.iload_n 2, 1) := by decide +kernel
theorem dX9_page_51 : decode cX9_page 51 = .ok (.iload_n 3, 1) := by decide +kernel
theorem dX9_page_52 : decode cX9_page 52 = .ok (.imul, 1) := by decide +kernel
theorem dX9_page_53 : decode cX9_page 53 = .ok (.isub, 1) := by decide +kernel
theorem dX9_page_54 : decode cX9_page 54 = .ok (.goto 4, 3) := by decide +kernel
theorem dX9_page_57 : decode cX9_page 57 = .ok (.iconst 0, 1) := by decide +kernel
theorem dX9_page_58 : decode cX9_page 58 = .ok (.istore 6, 2) := by decide +kernel
theorem dX9_page_60 : decode cX9_page 60 = .ok (.iload 5, 2) := by decide +kernel
theorem dX9_page_62 : decode cX9_page 62 = .ok (.ifCond .eq 8, 3) := by decide +kernel
theorem dX9_page_65 : decode cX9_page 65 = .ok (.iload 6, 2) := by decide +kernel
theorem dX9_page_67 : decode cX9_page 67 = .ok (.ifCond .ge 7, 3) := by decide +kernel
theorem dX9_page_70 : decode cX9_page 70 = .ok (.iconst 0, 1) := by decide +kernel
theorem dX9_page_71 : decode cX9_page 71 = .ok (.goto 15, 3) := by decide +kernel
theorem dX9_page_74 : decode cX9_page 74 = .ok (.iload 6, 2) := by decide +kernel
theorem dX9_page_76 : decode cX9_page 76 = .ok (.iload_n 2, 1) := by decide +kernel
theorem dX9_page_77 : decode cX9_page 77 = .ok (.if_icmp .le 7, 3) := by decide +kernel
theorem dX9_page_80 : decode cX9_page 80 = .ok (.iload_n 2, 1) := by decide +kernel
theorem dX9_page_81 : decode cX9_page 81 = .ok (.goto 5, 3) := by decide +kernel
theorem dX9_page_84 : decode cX9_page 84 = .ok (.iload 6, 2) := by decide +kernel
theorem dX9_page_86 : decode cX9_page 86 = .ok (.istore 7, 2) := by decide +kernel
theorem dX9_page_88 : decode cX9_page 88 = .ok (.iload 4, 2) := by decide +kernel
theorem dX9_page_90 : decode cX9_page 90 = .ok (.iconst (-1), 1) := by decide +kernel
theorem dX9_page_91 : decode cX9_page 91 = .ok (.if_icmp .ne 8, 3) := by decide +kernel
theorem dX9_page_94 : decode cX9_page 94 = .ok (.iload 7, 2) := by decide +kernel
theorem dX9_page_96 : decode cX9_page 96 = .ok (.goto 35, 3) := by decide +kernel
theorem dX9_page_99 : decode cX9_page 99 = .ok (.iload 4, 2) := by decide +kernel
theorem dX9_page_101 : decode cX9_page 101 = .ok (.i2l, 1) := by decide +kernel
theorem dX9_page_102 : decode cX9_page 102 = .ok (.lconst 0, 1) := by decide +kernel
theorem dX9_page_103 : decode cX9_page 103 = .ok (.iload 7, 2) := by decide +kernel
theorem dX9_page_105 : decode cX9_page 105 = .ok (.i2l, 1) := by decide +kernel
theorem dX9_page_106 : decode cX9_page 106 = .ok (.lconst 1, 1) := by decide +kernel
theorem dX9_page_107 : decode cX9_page 107 = .ok (.lsub, 1) := by decide +kernel
theorem dX9_page_108 : decode cX9_page 108 = .ok (.invokestatic 139, 3) := by decide +kernel
theorem dX9_page_111 : decode cX9_page 111 = .ok (.ifCond .eq 17, 3) := by decide +kernel
theorem dX9_page_114 : decode cX9_page 114 = .ok (.aload_n 0, 1) := by decide +kernel
theorem dX9_page_115 : decode cX9_page 115 = .ok (.getfield 90, 3) := by decide +kernel
theorem dX9_page_118 : decode cX9_page 118 = .ok (.iload_n 2, 1) := by decide +kernel
theorem dX9_page_119 : decode cX9_page 119 = .ok (.iload_n 3, 1) := by decide +kernel
theorem dX9_page_120 : decode cX9_page 120 = .ok (.imul, 1) := by decide +kernel
theorem dX9_page_121 : decode cX9_page 121 = .ok (.iload 4, 2) := by decide +kernel
theorem dX9_page_123 : decode cX9_page 123 = .ok (.iadd, 1) := by decide +kernel
theorem dX9_page_124 : decode cX9_page 124 = .ok (.iaload, 1) := by decide +kernel
theorem dX9_page_125 : decode cX9_page 125 = .ok (.goto 6, 3) := by decide +kernel
theorem dX9_page_128 : decode cX9_page 128 = .ok (.sipush (-5000), 3) := by decide +kernel
theorem dX9_page_131 : decode cX9_page 131 = .ok (.ireturn, 1) := by decide +kernel
theorem dX9_asOf_0 : decode cX9_asOf 0 = .ok (.aload_n 0, 1) := by decide +kernel
theorem dX9_asOf_1 : decode cX9_asOf 1 = .ok (.iconst 0, 1) := by decide +kernel
theorem dX9_asOf_2 : decode cX9_asOf 2 = .ok (.putfield 123, 3) := by decide +kernel
theorem dX9_asOf_5 : decode cX9_asOf 5 = .ok (.sipush (-5000), 3) := by decide +kernel
theorem dX9_asOf_8 : decode cX9_asOf 8 = .ok (.istore 4, 2) := by decide +kernel
theorem dX9_asOf_10 : decode cX9_asOf 10 = .ok (.iload_n 1, 1) := by decide +kernel
theorem dX9_asOf_11 : decode cX9_asOf 11 = .ok (.i2l, 1) := by decide +kernel
theorem dX9_asOf_12 : decode cX9_asOf 12 = .ok (.lconst 0, 1) := by decide +kernel
theorem dX9_asOf_13 : decode cX9_asOf 13 = .ok (.aload_n 0, 1) := by decide +kernel
theorem dX9_asOf_14 : decode cX9_asOf 14 = .ok (.getfield 129, 3) := by decide +kernel
theorem dX9_asOf_17 : decode cX9_asOf 17 = .ok (.i2l, 1) := by decide +kernel
theorem dX9_asOf_18 : decode cX9_asOf 18 = .ok (.invokestatic 139, 3) := by decide +kernel
theorem dX9_asOf_21 : decode cX9_asOf 21 = .ok (.ifCond .eq 66, 3) := by decide +kernel
theorem dX9_asOf_24 : decode cX9_asOf 24 = .ok (.aload_n 0, 1) := by decide +kernel
theorem dX9_asOf_25 : decode cX9_asOf 25 = .ok (.iload_n 1, 1) := by decide +kernel
theorem dX9_asOf_26 : decode cX9_asOf 26 = .ok (.invokevirtual 262, 3) := by decide +kernel
theorem dX9_asOf_29 : decode cX9_asOf 29 = .ok (.aload_n 0, 1) := by decide +kernel
theorem dX9_asOf_30 : decode cX9_asOf 30 = .ok (.iload_n 2, 1) := by decide +kernel
theorem dX9_asOf_31 : decode cX9_asOf 31 = .ok (.invokevirtual 255, 3) := by decide +kernel
theorem dX9_asOf_34 : decode cX9_asOf 34 = .ok (.iload_n 3, 1) := by decide +kernel
theorem dX9_asOf_35 : decode cX9_asOf 35 = .ok (.iconst (-1), 1) := by decide +kernel
theorem dX9_asOf_36 : decode cX9_asOf 36 = .ok (.if_icmp .ne 10, 3) := by decide +kernel
theorem dX9_asOf_39 : decode cX9_asOf 39 = .ok (.aload_n 0, 1) := by decide +kernel
theorem dX9_asOf_40 : decode cX9_asOf 40 = .ok (.getfield 238, 3) := by decide +kernel
theorem dX9_asOf_43 : decode cX9_asOf 43 = .ok (.goto 31, 3) := by decide +kernel
theorem dX9_asOf_46 : decode cX9_asOf 46 = .ok (.iload_n 3, 1) := by decide +kernel
theorem dX9_asOf_47 : decode cX9_asOf 47 = .ok (.i2l, 1) := by decide +kernel
theorem dX9_asOf_48 : decode cX9_asOf 48 = .ok (.lconst 0, 1) := by decide +kernel
theorem dX9_asOf_49 : decode cX9_asOf 49 = .ok (.aload_n 0, 1) := by decide +kernel
theorem dX9_asOf_50 : decode cX9_asOf 50 = .ok (.getfield 238, 3) := by decide +kernel
theorem dX9_asOf_53 : decode cX9_asOf 53 = .ok (.i2l, 1) := by decide +kernel
theorem dX9_asOf_54 : decode cX9_asOf 54 = .ok (.lconst 1, 1) := by decide +kernel
theorem dX9_asOf_55 : decode cX9_asOf 55 = .ok (.lsub, 1) := by decide +kernel
theorem dX9_asOf_56 : decode cX9_asOf 56 = .ok (.invokestatic 139, 3) := by decide +kernel
theorem dX9_asOf_59 : decode cX9_asOf 59 = .ok (.ifCond .eq 12, 3) := by decide +kernel
theorem dX9_asOf_62 : decode cX9_asOf 62 = .ok (.aload_n 0, 1) := by decide +kernel
theorem dX9_asOf_63 : decode cX9_asOf 63 = .ok (.getfield 90, 3) := by decide +kernel
theorem dX9_asOf_66 : decode cX9_asOf 66 = .ok (.iload_n 3, 1) := by decide +kernel
theorem dX9_asOf_67 : decode cX9_asOf 67 = .ok (.iaload, 1) := by decide +kernel
theorem dX9_asOf_68 : decode cX9_asOf 68 = .ok (.goto 6, 3) := by decide +kernel
theorem dX9_asOf_71 : decode cX9_asOf 71 = .ok (.sipush (-5000), 3) := by decide +kernel
theorem dX9_asOf_74 : decode cX9_asOf 74 = .ok (.istore 4, 2) := by decide +kernel
theorem dX9_asOf_76 : decode cX9_asOf 76 = .ok (.aload_n 0, 1) := by decide +kernel
theorem dX9_asOf_77 : decode cX9_asOf 77 = .ok (.aload_n 0, 1) := by decide +kernel
theorem dX9_asOf_78 : decode cX9_asOf 78 = .ok (.getfield 129, 3) := by decide +kernel
theorem dX9_asOf_81 : decode cX9_asOf 81 = .ok (.invokevirtual 262, 3) := by decide +kernel
theorem dX9_asOf_84 : decode cX9_asOf 84 = .ok (.iload 4, 2) := by decide +kernel
theorem dX9_asOf_86 : decode cX9_asOf 86 = .ok (.ireturn, 1) := by decide +kernel
theorem dX9_asOf_87 : decode cX9_asOf 87 = .ok (.iload_n 3, 1) := by decide +kernel
theorem dX9_asOf_88 : decode cX9_asOf 88 = .ok (.iconst (-1), 1) := by decide +kernel
theorem dX9_asOf_89 : decode cX9_asOf 89 = .ok (.if_icmp .ne 7, 3) := by decide +kernel
theorem dX9_asOf_92 : decode cX9_asOf 92 = .ok (.iconst 0, 1) := by decide +kernel
theorem dX9_asOf_93 : decode cX9_asOf 93 = .ok (.goto 6, 3) := by decide +kernel
theorem dX9_asOf_96 : decode cX9_asOf 96 = .ok (.sipush (-5000), 3) := by decide +kernel
theorem dX9_asOf_99 : decode cX9_asOf 99 = .ok (.ireturn, 1) := by decide +kernel
theorem dX9_isReader_0 : decode cX9_isReader 0 = .ok (.iload_n 1, 1) := by decide +kernel
theorem dX9_isReader_1 : decode cX9_isReader 1 = .ok (.i2l, 1) := by decide +kernel
theorem dX9_isReader_2 : decode cX9_isReader 2 = .ok (.lconst 0, 1) := by decide +kernel
theorem dX9_isReader_3 : decode cX9_isReader 3 = .ok (.aload_n 0, 1) := by decide +kernel
theorem dX9_isReader_4 : decode cX9_isReader 4 = .ok (.getfield 265, 3) := by decide +kernel
theorem dX9_isReader_7 : decode cX9_isReader 7 = .ok (.i2l, 1) := by decide +kernel
theorem dX9_isReader_8 : decode cX9_isReader 8 = .ok (.lconst 1, 1) := by decide +kernel
theorem dX9_isReader_9 : decode cX9_isReader 9 = .ok (.lsub, 1) := by decide +kernel
theorem dX9_isReader_10 : decode cX9_isReader 10 = .ok (.invokestatic 139, 3) := by decide +kernel
theorem dX9_isReader_13 : decode cX9_isReader 13 = .ok (.ireturn, 1) := by decide +kernel
theorem dX9_reader_0 : decode cX9_reader 0 = .ok (.aload_n 0, 1) := by decide +kernel
theorem dX9_reader_1 : decode cX9_reader 1 = .ok (.iconst 0, 1) := by decide +kernel
theorem dX9_reader_2 : decode cX9_reader 2 = .ok (.putfield 123, 3) := by decide +kernel
theorem dX9_reader_5 : decode cX9_reader 5 = .ok (.aload_n 0, 1) := by decide +kernel
theorem dX9_reader_6 : decode cX9_reader 6 = .ok (.iload_n 1, 1) := by decide +kernel
theorem dX9_reader_7 : decode cX9_reader 7 = .ok (.invokevirtual 157, 3) := by decide +kernel
theorem dX9_reader_10 : decode cX9_reader 10 = .ok (.ifCond .ne 10, 3) := by decide +kernel
theorem dX9_reader_13 : decode cX9_reader 13 = .ok (.aload_n 0, 1) := by decide +kernel
theorem dX9_reader_14 : decode cX9_reader 14 = .ok (.bipush (-2), 2) := by decide +kernel
theorem dX9_reader_16 : decode cX9_reader 16 = .ok (.invokevirtual 153, 3) := by decide +kernel
theorem dX9_reader_19 : decode cX9_reader 19 = .ok (.ireturn, 1) := by decide +kernel
theorem dX9_reader_20 : decode cX9_reader 20 = .ok (.aload_n 0, 1) := by decide +kernel
theorem dX9_reader_21 : decode cX9_reader 21 = .ok (.getfield 265, 3) := by decide +kernel
theorem dX9_reader_24 : decode cX9_reader 24 = .ok (.bipush 10, 2) := by decide +kernel
theorem dX9_reader_26 : decode cX9_reader 26 = .ok (.if_icmp .ne 10, 3) := by decide +kernel
theorem dX9_reader_29 : decode cX9_reader 29 = .ok (.aload_n 0, 1) := by decide +kernel
theorem dX9_reader_30 : decode cX9_reader 30 = .ok (.bipush (-5), 2) := by decide +kernel
theorem dX9_reader_32 : decode cX9_reader 32 = .ok (.invokevirtual 153, 3) := by decide +kernel
theorem dX9_reader_35 : decode cX9_reader 35 = .ok (.ireturn, 1) := by decide +kernel
theorem dX9_reader_36 : decode cX9_reader 36 = .ok (.aload_n 0, 1) := by decide +kernel
theorem dX9_reader_37 : decode cX9_reader 37 = .ok (.getfield 108, 3) := by decide +kernel
theorem dX9_reader_40 : decode cX9_reader 40 = .ok (.aload_n 0, 1) := by decide +kernel
theorem dX9_reader_41 : decode cX9_reader 41 = .ok (.getfield 265, 3) := by decide +kernel
theorem dX9_reader_44 : decode cX9_reader 44 = .ok (.iload_n 1, 1) := by decide +kernel
theorem dX9_reader_45 : decode cX9_reader 45 = .ok (.iastore, 1) := by decide +kernel
theorem dX9_reader_46 : decode cX9_reader 46 = .ok (.aload_n 0, 1) := by decide +kernel
theorem dX9_reader_47 : decode cX9_reader 47 = .ok (.dup, 1) := by decide +kernel
theorem dX9_reader_48 : decode cX9_reader 48 = .ok (.getfield 265, 3) := by decide +kernel
theorem dX9_reader_51 : decode cX9_reader 51 = .ok (.iconst 1, 1) := by decide +kernel
theorem dX9_reader_52 : decode cX9_reader 52 = .ok (.iadd, 1) := by decide +kernel
theorem dX9_reader_53 : decode cX9_reader 53 = .ok (.putfield 265, 3) := by decide +kernel
theorem dX9_reader_56 : decode cX9_reader 56 = .ok (.aload_n 0, 1) := by decide +kernel
theorem dX9_reader_57 : decode cX9_reader 57 = .ok (.aload_n 0, 1) := by decide +kernel
theorem dX9_reader_58 : decode cX9_reader 58 = .ok (.getfield 265, 3) := by decide +kernel
theorem dX9_reader_61 : decode cX9_reader 61 = .ok (.iconst 1, 1) := by decide +kernel
theorem dX9_reader_62 : decode cX9_reader 62 = .ok (.isub, 1) := by decide +kernel
theorem dX9_reader_63 : decode cX9_reader 63 = .ok (.invokevirtual 153, 3) := by decide +kernel
theorem dX9_reader_66 : decode cX9_reader 66 = .ok (.ireturn, 1) := by decide +kernel
theorem dX9_isHeld_0 : decode cX9_isHeld 0 = .ok (.aload_n 0, 1) := by decide +kernel
theorem dX9_isHeld_1 : decode cX9_isHeld 1 = .ok (.getfield 111, 3) := by decide +kernel
theorem dX9_isHeld_4 : decode cX9_isHeld 4 = .ok (.iload_n 1, 1) := by decide +kernel
theorem dX9_isHeld_5 : decode cX9_isHeld 5 = .ok (.iaload, 1) := by decide +kernel
theorem dX9_isHeld_6 : decode cX9_isHeld 6 = .ok (.aload_n 0, 1) := by decide +kernel
theorem dX9_isHeld_7 : decode cX9_isHeld 7 = .ok (.getfield 238, 3) := by decide +kernel
theorem dX9_isHeld_10 : decode cX9_isHeld 10 = .ok (.if_icmp .ne 7, 3) := by decide +kernel
theorem dX9_isHeld_13 : decode cX9_isHeld 13 = .ok (.iconst 1, 1) := by decide +kernel
theorem dX9_isHeld_14 : decode cX9_isHeld 14 = .ok (.goto 4, 3) := by decide +kernel
theorem dX9_isHeld_17 : decode cX9_isHeld 17 = .ok (.iconst 0, 1) := by decide +kernel
theorem dX9_isHeld_18 : decode cX9_isHeld 18 = .ok (.istore_n 2, 1) := by decide +kernel
theorem dX9_isHeld_19 : decode cX9_isHeld 19 = .ok (.iconst 0, 1) := by decide +kernel
theorem dX9_isHeld_20 : decode cX9_isHeld 20 = .ok (.istore_n 3, 1) := by decide +kernel
theorem dX9_isHeld_21 : decode cX9_isHeld 21 = .ok (.iload_n 3, 1) := by decide +kernel
theorem dX9_isHeld_22 : decode cX9_isHeld 22 = .ok (.aload_n 0, 1) := by decide +kernel
theorem dX9_isHeld_23 : decode cX9_isHeld 23 = .ok (.getfield 238, 3) := by decide +kernel
theorem dX9_isHeld_26 : decode cX9_isHeld 26 = .ok (.if_icmp .ge 40, 3) := by decide +kernel
theorem dX9_isHeld_29 : decode cX9_isHeld 29 = .ok (.iload_n 2, 1) := by decide +kernel
theorem dX9_isHeld_30 : decode cX9_isHeld 30 = .ok (.ifCond .eq 36, 3) := by decide +kernel
theorem dX9_isHeld_33 : decode cX9_isHeld 33 = .ok (.aload_n 0, 1) := by decide +kernel
theorem dX9_isHeld_34 : decode cX9_isHeld 34 = .ok (.getfield 114, 3) := by decide +kernel
theorem dX9_isHeld_37 : decode cX9_isHeld 37 = .ok (.sipush 600, 3) := by decide +kernel
theorem dX9_isHeld_40 : decode cX9_isHeld 40 = .ok (.iload_n 1, 1) := by decide +kernel
theorem dX9_isHeld_41 : decode cX9_isHeld 41 = .ok (.imul, 1) := by decide +kernel
theorem dX9_isHeld_42 : decode cX9_isHeld 42 = .ok (.iload_n 3, 1) := by decide +kernel
theorem dX9_isHeld_43 : decode cX9_isHeld 43 = .ok (.iadd, 1) := by decide +kernel
theorem dX9_isHeld_44 : decode cX9_isHeld 44 = .ok (.iaload, 1) := by decide +kernel
theorem dX9_isHeld_45 : decode cX9_isHeld 45 = .ok (.aload_n 0, 1) := by decide +kernel
theorem dX9_isHeld_46 : decode cX9_isHeld 46 = .ok (.getfield 90, 3) := by decide +kernel
theorem dX9_isHeld_49 : decode cX9_isHeld 49 = .ok (.iload_n 3, 1) := by decide +kernel
theorem dX9_isHeld_50 : decode cX9_isHeld 50 = .ok (.iaload, 1) := by decide +kernel
theorem dX9_isHeld_51 : decode cX9_isHeld 51 = .ok (.if_icmp .ne 7, 3) := by decide +kernel
theorem dX9_isHeld_54 : decode cX9_isHeld 54 = .ok (.iconst 1, 1) := by decide +kernel
theorem dX9_isHeld_55 : decode cX9_isHeld 55 = .ok (.goto 4, 3) := by decide +kernel
theorem dX9_isHeld_58 : decode cX9_isHeld 58 = .ok (.iconst 0, 1) := by decide +kernel
theorem dX9_isHeld_59 : decode cX9_isHeld 59 = .ok (.istore_n 2, 1) := by decide +kernel
theorem dX9_isHeld_60 : decode cX9_isHeld 60 = .ok (.iinc 3 1, 3) := by decide +kernel
theorem dX9_isHeld_63 : decode cX9_isHeld 63 = .ok (.goto (-42), 3) := by decide +kernel
theorem dX9_isHeld_66 : decode cX9_isHeld 66 = .ok (.iload_n 2, 1) := by decide +kernel
theorem dX9_isHeld_67 : decode cX9_isHeld 67 = .ok (.ireturn, 1) := by decide +kernel
theorem dX9_send_0 : decode cX9_send 0 = .ok (.aload_n 0, 1) := by decide +kernel
theorem dX9_send_1 : decode cX9_send 1 = .ok (.iconst 0, 1) := by decide +kernel
theorem dX9_send_2 : decode cX9_send 2 = .ok (.putfield 123, 3) := by decide +kernel
theorem dX9_send_5 : decode cX9_send 5 = .ok (.iconst 0, 1) := by decide +kernel
theorem dX9_send_6 : decode cX9_send 6 = .ok (.istore_n 1, 1) := by decide +kernel
theorem dX9_send_7 : decode cX9_send 7 = .ok (.iconst 0, 1) := by decide +kernel
theorem dX9_send_8 : decode cX9_send 8 = .ok (.istore_n 2, 1) := by decide +kernel
theorem dX9_send_9 : decode cX9_send 9 = .ok (.iload_n 2, 1) := by decide +kernel
theorem dX9_send_10 : decode cX9_send 10 = .ok (.aload_n 0, 1) := by decide +kernel
theorem dX9_send_11 : decode cX9_send 11 = .ok (.getfield 265, 3) := by decide +kernel
theorem dX9_send_14 : decode cX9_send 14 = .ok (.if_icmp .ge 108, 3) := by decide +kernel
theorem dX9_send_17 : decode cX9_send 17 = .ok (.aload_n 0, 1) := by decide +kernel
theorem dX9_send_18 : decode cX9_send 18 = .ok (.aload_n 0, 1) := by decide +kernel
theorem dX9_send_19 : decode cX9_send 19 = .ok (.getfield 108, 3) := by decide +kernel
theorem dX9_send_22 : decode cX9_send 22 = .ok (.iload_n 2, 1) := by decide +kernel
theorem dX9_send_23 : decode cX9_send 23 = .ok (.iaload, 1) := by decide +kernel
theorem dX9_send_24 : decode cX9_send 24 = .ok (.invokevirtual 255, 3) := by decide +kernel
theorem dX9_send_27 : decode cX9_send 27 = .ok (.aload_n 0, 1) := by decide +kernel
theorem dX9_send_28 : decode cX9_send 28 = .ok (.iload_n 2, 1) := by decide +kernel
theorem dX9_send_29 : decode cX9_send 29 = .ok (.invokevirtual 268, 3) := by decide +kernel
theorem dX9_send_32 : decode cX9_send 32 = .ok (.ifCond .eq 6, 3) := by decide +kernel
theorem dX9_send_35 : decode cX9_send 35 = .ok (.goto 81, 3) := by decide +kernel
theorem dX9_send_38 : decode cX9_send 38 = .ok (.iload_n 1, 1) := by decide +kernel
theorem dX9_send_39 : decode cX9_send 39 = .ok (.iconst 1, 1) := by decide +kernel
theorem dX9_send_40 : decode cX9_send 40 = .ok (.iload_n 2, 1) := by decide +kernel
theorem dX9_send_41 : decode cX9_send 41 = .ok (.ishl, 1) := by decide +kernel
theorem dX9_send_42 : decode cX9_send 42 = .ok (.ior, 1) := by decide +kernel
theorem dX9_send_43 : decode cX9_send 43 = .ok (.istore_n 1, 1) := by decide +kernel
theorem dX9_send_44 : decode cX9_send 44 = .ok (.aload_n 0, 1) := by decide +kernel
theorem dX9_send_45 : decode cX9_send 45 = .ok (.dup, 1) := by decide +kernel
theorem dX9_send_46 : decode cX9_send 46 = .ok (.getfield 271, 3) := by decide +kernel
theorem dX9_send_49 : decode cX9_send 49 = .ok (.iconst 1, 1) := by decide +kernel
theorem dX9_send_50 : decode cX9_send 50 = .ok (.iadd, 1) := by decide +kernel
theorem dX9_send_51 : decode cX9_send 51 = .ok (.putfield 271, 3) := by decide +kernel
theorem dX9_send_54 : decode cX9_send 54 = .ok (.aload_n 0, 1) := by decide +kernel
theorem dX9_send_55 : decode cX9_send 55 = .ok (.getfield 111, 3) := by decide +kernel
theorem dX9_send_58 : decode cX9_send 58 = .ok (.iload_n 2, 1) := by decide +kernel
theorem dX9_send_59 : decode cX9_send 59 = .ok (.aload_n 0, 1) := by decide +kernel
theorem dX9_send_60 : decode cX9_send 60 = .ok (.getfield 238, 3) := by decide +kernel
theorem dX9_send_63 : decode cX9_send 63 = .ok (.iastore, 1) := by decide +kernel
theorem dX9_send_64 : decode cX9_send 64 = .ok (.iconst 0, 1) := by decide +kernel
theorem dX9_send_65 : decode cX9_send 65 = .ok (.istore_n 3, 1) := by decide +kernel
theorem dX9_send_66 : decode cX9_send 66 = .ok (.iload_n 3, 1) := by decide +kernel
theorem dX9_send_67 : decode cX9_send 67 = .ok (.aload_n 0, 1) := by decide +kernel
theorem dX9_send_68 : decode cX9_send 68 = .ok (.getfield 238, 3) := by decide +kernel
theorem dX9_send_71 : decode cX9_send 71 = .ok (.if_icmp .ge 45, 3) := by decide +kernel
theorem dX9_send_74 : decode cX9_send 74 = .ok (.aload_n 0, 1) := by decide +kernel
theorem dX9_send_75 : decode cX9_send 75 = .ok (.getfield 114, 3) := by decide +kernel
theorem dX9_send_78 : decode cX9_send 78 = .ok (.sipush 600, 3) := by decide +kernel
theorem dX9_send_81 : decode cX9_send 81 = .ok (.iload_n 2, 1) := by decide +kernel
theorem dX9_send_82 : decode cX9_send 82 = .ok (.imul, 1) := by decide +kernel
theorem dX9_send_83 : decode cX9_send 83 = .ok (.iload_n 3, 1) := by decide +kernel
theorem dX9_send_84 : decode cX9_send 84 = .ok (.iadd, 1) := by decide +kernel
theorem dX9_send_85 : decode cX9_send 85 = .ok (.aload_n 0, 1) := by decide +kernel
theorem dX9_send_86 : decode cX9_send 86 = .ok (.getfield 90, 3) := by decide +kernel
theorem dX9_send_89 : decode cX9_send 89 = .ok (.iload_n 3, 1) := by decide +kernel
theorem dX9_send_90 : decode cX9_send 90 = .ok (.iaload, 1) := by decide +kernel
theorem dX9_send_91 : decode cX9_send 91 = .ok (.iastore, 1) := by decide +kernel
theorem dX9_send_92 : decode cX9_send 92 = .ok (.aload_n 0, 1) := by decide +kernel
theorem dX9_send_93 : decode cX9_send 93 = .ok (.getfield 117, 3) := by decide +kernel
theorem dX9_send_96 : decode cX9_send 96 = .ok (.sipush 600, 3) := by decide +kernel
theorem dX9_send_99 : decode cX9_send 99 = .ok (.iload_n 2, 1) := by decide +kernel
theorem dX9_send_100 : decode cX9_send 100 = .ok (.imul, 1) := by decide +kernel
theorem dX9_send_101 : decode cX9_send 101 = .ok (.iload_n 3, 1) := by decide +kernel
theorem dX9_send_102 : decode cX9_send 102 = .ok (.iadd, 1) := by decide +kernel
theorem dX9_send_103 : decode cX9_send 103 = .ok (.aload_n 0, 1) := by decide +kernel
theorem dX9_send_104 : decode cX9_send 104 = .ok (.getfield 93, 3) := by decide +kernel
theorem dX9_send_107 : decode cX9_send 107 = .ok (.iload_n 3, 1) := by decide +kernel
theorem dX9_send_108 : decode cX9_send 108 = .ok (.iaload, 1) := by decide +kernel
theorem dX9_send_109 : decode cX9_send 109 = .ok (.iastore, 1) := by decide +kernel
theorem dX9_send_110 : decode cX9_send 110 = .ok (.iinc 3 1, 3) := by decide +kernel
theorem dX9_send_113 : decode cX9_send 113 = .ok (.goto (-47), 3) := by decide +kernel
theorem dX9_send_116 : decode cX9_send 116 = .ok (.iinc 2 1, 3) := by decide +kernel
theorem dX9_send_119 : decode cX9_send 119 = .ok (.goto (-110), 3) := by decide +kernel
theorem dX9_send_122 : decode cX9_send 122 = .ok (.iload_n 1, 1) := by decide +kernel
theorem dX9_send_123 : decode cX9_send 123 = .ok (.ireturn, 1) := by decide +kernel
theorem dX9_holds_0 : decode cX9_holds 0 = .ok (.aload_n 0, 1) := by decide +kernel
theorem dX9_holds_1 : decode cX9_holds 1 = .ok (.iconst 0, 1) := by decide +kernel
theorem dX9_holds_2 : decode cX9_holds 2 = .ok (.putfield 123, 3) := by decide +kernel
theorem dX9_holds_5 : decode cX9_holds 5 = .ok (.aload_n 0, 1) := by decide +kernel
theorem dX9_holds_6 : decode cX9_holds 6 = .ok (.iload_n 1, 1) := by decide +kernel
theorem dX9_holds_7 : decode cX9_holds 7 = .ok (.invokevirtual 274, 3) := by decide +kernel
theorem dX9_holds_10 : decode cX9_holds 10 = .ok (.ifCond .ne 7, 3) := by decide +kernel
theorem dX9_holds_13 : decode cX9_holds 13 = .ok (.sipush (-5000), 3) := by decide +kernel
theorem dX9_holds_16 : decode cX9_holds 16 = .ok (.ireturn, 1) := by decide +kernel
theorem dX9_holds_17 : decode cX9_holds 17 = .ok (.iload_n 2, 1) := by decide +kernel
theorem dX9_holds_18 : decode cX9_holds 18 = .ok (.iconst (-1), 1) := by decide +kernel
theorem dX9_holds_19 : decode cX9_holds 19 = .ok (.if_icmp .ne 12, 3) := by decide +kernel
theorem dX9_holds_22 : decode cX9_holds 22 = .ok (.aload_n 0, 1) := by decide +kernel
theorem dX9_holds_23 : decode cX9_holds 23 = .ok (.getfield 111, 3) := by decide +kernel
theorem dX9_holds_26 : decode cX9_holds 26 = .ok (.iload_n 1, 1) := by decide +kernel
theorem dX9_holds_27 : decode cX9_holds 27 = .ok (.iaload, 1) := by decide +kernel
theorem dX9_holds_28 : decode cX9_holds 28 = .ok (.goto 39, 3) := by decide +kernel
theorem dX9_holds_31 : decode cX9_holds 31 = .ok (.iload_n 2, 1) := by decide +kernel
theorem dX9_holds_32 : decode cX9_holds 32 = .ok (.i2l, 1) := by decide +kernel
theorem dX9_holds_33 : decode cX9_holds 33 = .ok (.lconst 0, 1) := by decide +kernel
theorem dX9_holds_34 : decode cX9_holds 34 = .ok (.aload_n 0, 1) := by decide +kernel
theorem dX9_holds_35 : decode cX9_holds 35 = .ok (.getfield 111, 3) := by decide +kernel
theorem dX9_holds_38 : decode cX9_holds 38 = .ok (.iload_n 1, 1) := by decide +kernel
theorem dX9_holds_39 : decode cX9_holds 39 = .ok (.iaload, 1) := by decide +kernel
theorem dX9_holds_40 : decode cX9_holds 40 = .ok (.i2l, 1) := by decide +kernel
theorem dX9_holds_41 : decode cX9_holds 41 = .ok (.lconst 1, 1) := by decide +kernel
theorem dX9_holds_42 : decode cX9_holds 42 = .ok (.lsub, 1) := by decide +kernel
theorem dX9_holds_43 : decode cX9_holds 43 = .ok (.invokestatic 139, 3) := by decide +kernel
theorem dX9_holds_46 : decode cX9_holds 46 = .ok (.ifCond .eq 18, 3) := by decide +kernel
theorem dX9_holds_49 : decode cX9_holds 49 = .ok (.aload_n 0, 1) := by decide +kernel
theorem dX9_holds_50 : decode cX9_holds 50 = .ok (.getfield 114, 3) := by decide +kernel
theorem dX9_holds_53 : decode cX9_holds 53 = .ok (.sipush 600, 3) := by decide +kernel
theorem dX9_holds_56 : decode cX9_holds 56 = .ok (.iload_n 1, 1) := by decide +kernel
theorem dX9_holds_57 : decode cX9_holds 57 = .ok (.imul, 1) := by decide +kernel
theorem dX9_holds_58 : decode cX9_holds 58 = .ok (.iload_n 2, 1) := by decide +kernel
theorem dX9_holds_59 : decode cX9_holds 59 = .ok (.iadd, 1) := by decide +kernel
theorem dX9_holds_60 : decode cX9_holds 60 = .ok (.iaload, 1) := by decide +kernel
theorem dX9_holds_61 : decode cX9_holds 61 = .ok (.goto 6, 3) := by decide +kernel
theorem dX9_holds_64 : decode cX9_holds 64 = .ok (.sipush (-5000), 3) := by decide +kernel
theorem dX9_holds_67 : decode cX9_holds 67 = .ok (.ireturn, 1) := by decide +kernel
theorem dX9_same_0 : decode cX9_same 0 = .ok (.aload_n 0, 1) := by decide +kernel
theorem dX9_same_1 : decode cX9_same 1 = .ok (.iconst 0, 1) := by decide +kernel
theorem dX9_same_2 : decode cX9_same 2 = .ok (.putfield 123, 3) := by decide +kernel
theorem dX9_same_5 : decode cX9_same 5 = .ok (.aload_n 0, 1) := by decide +kernel
theorem dX9_same_6 : decode cX9_same 6 = .ok (.iload_n 1, 1) := by decide +kernel
theorem dX9_same_7 : decode cX9_same 7 = .ok (.invokevirtual 274, 3) := by decide +kernel
theorem dX9_same_10 : decode cX9_same 10 = .ok (.ifCond .ne 5, 3) := by decide +kernel
theorem dX9_same_13 : decode cX9_same 13 = .ok (.iconst (-1), 1) := by decide +kernel
theorem dX9_same_14 : decode cX9_same 14 = .ok (.ireturn, 1) := by decide +kernel
theorem dX9_same_15 : decode cX9_same 15 = .ok (.aload_n 0, 1) := by decide +kernel
theorem dX9_same_16 : decode cX9_same 16 = .ok (.aload_n 0, 1) := by decide +kernel
theorem dX9_same_17 : decode cX9_same 17 = .ok (.getfield 108, 3) := by decide +kernel
theorem dX9_same_20 : decode cX9_same 20 = .ok (.iload_n 1, 1) := by decide +kernel
theorem dX9_same_21 : decode cX9_same 21 = .ok (.iaload, 1) := by decide +kernel
theorem dX9_same_22 : decode cX9_same 22 = .ok (.invokevirtual 255, 3) := by decide +kernel
theorem dX9_same_25 : decode cX9_same 25 = .ok (.aload_n 0, 1) := by decide +kernel
theorem dX9_same_26 : decode cX9_same 26 = .ok (.iload_n 1, 1) := by decide +kernel
theorem dX9_same_27 : decode cX9_same 27 = .ok (.invokevirtual 268, 3) := by decide +kernel
theorem dX9_same_30 : decode cX9_same 30 = .ok (.ifCond .eq 7, 3) := by decide +kernel
theorem dX9_same_33 : decode cX9_same 33 = .ok (.iconst 1, 1) := by decide +kernel
theorem dX9_same_34 : decode cX9_same 34 = .ok (.goto 4, 3) := by decide +kernel
theorem dX9_same_37 : decode cX9_same 37 = .ok (.iconst 0, 1) := by decide +kernel
theorem dX9_same_38 : decode cX9_same 38 = .ok (.ireturn, 1) := by decide +kernel
theorem dX9_edit_0 : decode cX9_edit 0 = .ok (.aload_n 0, 1) := by decide +kernel
theorem dX9_edit_1 : decode cX9_edit 1 = .ok (.iconst 0, 1) := by decide +kernel
theorem dX9_edit_2 : decode cX9_edit 2 = .ok (.putfield 123, 3) := by decide +kernel
theorem dX9_edit_5 : decode cX9_edit 5 = .ok (.iload_n 3, 1) := by decide +kernel
theorem dX9_edit_6 : decode cX9_edit 6 = .ok (.invokestatic 149, 3) := by decide +kernel
theorem dX9_edit_9 : decode cX9_edit 9 = .ok (.ifCond .ne 9, 3) := by decide +kernel
theorem dX9_edit_12 : decode cX9_edit 12 = .ok (.aload_n 0, 1) := by decide +kernel
theorem dX9_edit_13 : decode cX9_edit 13 = .ok (.iconst (-1), 1) := by decide +kernel
theorem dX9_edit_14 : decode cX9_edit 14 = .ok (.invokevirtual 153, 3) := by decide +kernel
theorem dX9_edit_17 : decode cX9_edit 17 = .ok (.ireturn, 1) := by decide +kernel
theorem dX9_edit_18 : decode cX9_edit 18 = .ok (.aload_n 0, 1) := by decide +kernel
theorem dX9_edit_19 : decode cX9_edit 19 = .ok (.iload_n 1, 1) := by decide +kernel
theorem dX9_edit_20 : decode cX9_edit 20 = .ok (.invokevirtual 274, 3) := by decide +kernel
theorem dX9_edit_23 : decode cX9_edit 23 = .ok (.ifCond .ne 10, 3) := by decide +kernel
theorem dX9_edit_26 : decode cX9_edit 26 = .ok (.aload_n 0, 1) := by decide +kernel
theorem dX9_edit_27 : decode cX9_edit 27 = .ok (.bipush (-2), 2) := by decide +kernel
theorem dX9_edit_29 : decode cX9_edit 29 = .ok (.invokevirtual 153, 3) := by decide +kernel
theorem dX9_edit_32 : decode cX9_edit 32 = .ok (.ireturn, 1) := by decide +kernel
theorem dX9_edit_33 : decode cX9_edit 33 = .ok (.sipush 600, 3) := by decide +kernel
theorem dX9_edit_36 : decode cX9_edit 36 = .ok (.iload_n 1, 1) := by decide +kernel
theorem dX9_edit_37 : decode cX9_edit 37 = .ok (.imul, 1) := by decide +kernel
theorem dX9_edit_38 : decode cX9_edit 38 = .ok (.iload_n 2, 1) := by decide +kernel
theorem dX9_edit_39 : decode cX9_edit 39 = .ok (.iadd, 1) := by decide +kernel
theorem dX9_edit_40 : decode cX9_edit 40 = .ok (.istore 4, 2) := by decide +kernel
theorem dX9_edit_42 : decode cX9_edit 42 = .ok (.iload_n 2, 1) := by decide +kernel
theorem dX9_edit_43 : decode cX9_edit 43 = .ok (.i2l, 1) := by decide +kernel
theorem dX9_edit_44 : decode cX9_edit 44 = .ok (.lconst 0, 1) := by decide +kernel
theorem dX9_edit_45 : decode cX9_edit 45 = .ok (.aload_n 0, 1) := by decide +kernel
theorem dX9_edit_46 : decode cX9_edit 46 = .ok (.getfield 111, 3) := by decide +kernel
theorem dX9_edit_49 : decode cX9_edit 49 = .ok (.iload_n 1, 1) := by decide +kernel
theorem dX9_edit_50 : decode cX9_edit 50 = .ok (.iaload, 1) := by decide +kernel
theorem dX9_edit_51 : decode cX9_edit 51 = .ok (.i2l, 1) := by decide +kernel
theorem dX9_edit_52 : decode cX9_edit 52 = .ok (.lconst 1, 1) := by decide +kernel
theorem dX9_edit_53 : decode cX9_edit 53 = .ok (.lsub, 1) := by decide +kernel
theorem dX9_edit_54 : decode cX9_edit 54 = .ok (.invokestatic 139, 3) := by decide +kernel
theorem dX9_edit_57 : decode cX9_edit 57 = .ok (.ifCond .eq 18, 3) := by decide +kernel
theorem dX9_edit_60 : decode cX9_edit 60 = .ok (.aload_n 0, 1) := by decide +kernel
theorem dX9_edit_61 : decode cX9_edit 61 = .ok (.getfield 117, 3) := by decide +kernel
theorem dX9_edit_64 : decode cX9_edit 64 = .ok (.iload 4, 2) := by decide +kernel
theorem dX9_edit_66 : decode cX9_edit 66 = .ok (.iaload, 1) := by decide +kernel
theorem dX9_edit_67 : decode cX9_edit 67 = .ok (.iconst (-1), 1) := by decide +kernel
theorem dX9_edit_68 : decode cX9_edit 68 = .ok (.if_icmp .eq 7, 3) := by decide +kernel
theorem dX9_edit_71 : decode cX9_edit 71 = .ok (.iconst 1, 1) := by decide +kernel
theorem dX9_edit_72 : decode cX9_edit 72 = .ok (.goto 4, 3) := by decide +kernel
theorem dX9_edit_75 : decode cX9_edit 75 = .ok (.iconst 0, 1) := by decide +kernel
theorem dX9_edit_76 : decode cX9_edit 76 = .ok (.istore 5, 2) := by decide +kernel
theorem dX9_edit_78 : decode cX9_edit 78 = .ok (.iload 5, 2) := by decide +kernel
theorem dX9_edit_80 : decode cX9_edit 80 = .ok (.ifCond .eq 40, 3) := by decide +kernel
theorem dX9_edit_83 : decode cX9_edit 83 = .ok (.aload_n 0, 1) := by decide +kernel
theorem dX9_edit_84 : decode cX9_edit 84 = .ok (.getfield 37, 3) := by decide +kernel
theorem dX9_edit_87 : decode cX9_edit 87 = .ok (.aload_n 0, 1) := by decide +kernel
theorem dX9_edit_88 : decode cX9_edit 88 = .ok (.getfield 117, 3) := by decide +kernel
theorem dX9_edit_91 : decode cX9_edit 91 = .ok (.iload 4, 2) := by decide +kernel
theorem dX9_edit_93 : decode cX9_edit 93 = .ok (.iaload, 1) := by decide +kernel
theorem dX9_edit_94 : decode cX9_edit 94 = .ok (.baload, 1) := by decide +kernel
theorem dX9_edit_95 : decode cX9_edit 95 = .ok (.ifCond .eq 25, 3) := by decide +kernel
theorem dX9_edit_98 : decode cX9_edit 98 = .ok (.aload_n 0, 1) := by decide +kernel
theorem dX9_edit_99 : decode cX9_edit 99 = .ok (.getfield 31, 3) := by decide +kernel
theorem dX9_edit_102 : decode cX9_edit 102 = .ok (.aload_n 0, 1) := by decide +kernel
theorem dX9_edit_103 : decode cX9_edit 103 = .ok (.getfield 117, 3) := by decide +kernel
theorem dX9_edit_106 : decode cX9_edit 106 = .ok (.iload 4, 2) := by decide +kernel
theorem dX9_edit_108 : decode cX9_edit 108 = .ok (.iaload, 1) := by decide +kernel
theorem dX9_edit_109 : decode cX9_edit 109 = .ok (.iaload, 1) := by decide +kernel
theorem dX9_edit_110 : decode cX9_edit 110 = .ok (.aload_n 0, 1) := by decide +kernel
theorem dX9_edit_111 : decode cX9_edit 111 = .ok (.getfield 114, 3) := by decide +kernel
theorem dX9_edit_114 : decode cX9_edit 114 = .ok (.iload 4, 2) := by decide +kernel
theorem dX9_edit_116 : decode cX9_edit 116 = .ok (.iaload, 1) := by decide +kernel
theorem dX9_edit_117 : decode cX9_edit 117 = .ok (.if_icmp .eq 10, 3) := by decide +kernel
theorem dX9_edit_120 : decode cX9_edit 120 = .ok (.aload_n 0, 1) := by decide +kernel
theorem dX9_edit_121 : decode cX9_edit 121 = .ok (.bipush (-3), 2) := by decide +kernel
theorem dX9_edit_123 : decode cX9_edit 123 = .ok (.invokevirtual 153, 3) := by decide +kernel
theorem dX9_edit_126 : decode cX9_edit 126 = .ok (.ireturn, 1) := by decide +kernel
theorem dX9_edit_127 : decode cX9_edit 127 = .ok (.aload_n 0, 1) := by decide +kernel
theorem dX9_edit_128 : decode cX9_edit 128 = .ok (.getfield 129, 3) := by decide +kernel
theorem dX9_edit_131 : decode cX9_edit 131 = .ok (.sipush 300, 3) := by decide +kernel
theorem dX9_edit_134 : decode cX9_edit 134 = .ok (.if_icmp .ne 10, 3) := by decide +kernel
theorem dX9_edit_137 : decode cX9_edit 137 = .ok (.aload_n 0, 1) := by decide +kernel
theorem dX9_edit_138 : decode cX9_edit 138 = .ok (.bipush (-5), 2) := by decide +kernel
theorem dX9_edit_140 : decode cX9_edit 140 = .ok (.invokevirtual 153, 3) := by decide +kernel
theorem dX9_edit_143 : decode cX9_edit 143 = .ok (.ireturn, 1) := by decide +kernel
theorem dX9_edit_144 : decode cX9_edit 144 = .ok (.aload_n 0, 1) := by decide +kernel
theorem dX9_edit_145 : decode cX9_edit 145 = .ok (.iconst 1, 1) := by decide +kernel
theorem dX9_edit_146 : decode cX9_edit 146 = .ok (.aload_n 0, 1) := by decide +kernel
theorem dX9_edit_147 : decode cX9_edit 147 = .ok (.getfield 117, 3) := by decide +kernel
theorem dX9_edit_150 : decode cX9_edit 150 = .ok (.iload 4, 2) := by decide +kernel
theorem dX9_edit_152 : decode cX9_edit 152 = .ok (.iaload, 1) := by decide +kernel
theorem dX9_edit_153 : decode cX9_edit 153 = .ok (.iload_n 3, 1) := by decide +kernel
theorem dX9_edit_154 : decode cX9_edit 154 = .ok (.iconst 0, 1) := by decide +kernel
theorem dX9_edit_155 : decode cX9_edit 155 = .ok (.iconst 0, 1) := by decide +kernel
theorem dX9_edit_156 : decode cX9_edit 156 = .ok (.iconst 0, 1) := by decide +kernel
theorem dX9_edit_157 : decode cX9_edit 157 = .ok (.invokevirtual 160, 3) := by decide +kernel
theorem dX9_edit_160 : decode cX9_edit 160 = .ok (.aload_n 0, 1) := by decide +kernel
theorem dX9_edit_161 : decode cX9_edit 161 = .ok (.getfield 114, 3) := by decide +kernel
theorem dX9_edit_164 : decode cX9_edit 164 = .ok (.iload 4, 2) := by decide +kernel
theorem dX9_edit_166 : decode cX9_edit 166 = .ok (.iload_n 3, 1) := by decide +kernel
theorem dX9_edit_167 : decode cX9_edit 167 = .ok (.iastore, 1) := by decide +kernel
theorem dX9_edit_168 : decode cX9_edit 168 = .ok (.aload_n 0, 1) := by decide +kernel
theorem dX9_edit_169 : decode cX9_edit 169 = .ok (.aload_n 0, 1) := by decide +kernel
theorem dX9_edit_170 : decode cX9_edit 170 = .ok (.getfield 117, 3) := by decide +kernel
theorem dX9_edit_173 : decode cX9_edit 173 = .ok (.iload 4, 2) := by decide +kernel
theorem dX9_edit_175 : decode cX9_edit 175 = .ok (.iaload, 1) := by decide +kernel
theorem dX9_edit_176 : decode cX9_edit 176 = .ok (.invokevirtual 153, 3) := by decide +kernel
theorem dX9_edit_179 : decode cX9_edit 179 = .ok (.ireturn, 1) := by decide +kernel
theorem dX9_touched_0 : decode cX9_touched 0 = .ok (.aload_n 0, 1) := by decide +kernel
theorem dX9_touched_1 : decode cX9_touched 1 = .ok (.iconst 0, 1) := by decide +kernel
theorem dX9_touched_2 : decode cX9_touched 2 = .ok (.putfield 123, 3) := by decide +kernel
theorem dX9_touched_5 : decode cX9_touched 5 = .ok (.aload_n 0, 1) := by decide +kernel
theorem dX9_touched_6 : decode cX9_touched 6 = .ok (.iload_n 1, 1) := by decide +kernel
theorem dX9_touched_7 : decode cX9_touched 7 = .ok (.invokevirtual 157, 3) := by decide +kernel
theorem dX9_touched_10 : decode cX9_touched 10 = .ok (.ifCond .eq 10, 3) := by decide +kernel
theorem dX9_touched_13 : decode cX9_touched 13 = .ok (.iload_n 2, 1) := by decide +kernel
theorem dX9_touched_14 : decode cX9_touched 14 = .ok (.invokestatic 149, 3) := by decide +kernel
theorem dX9_touched_17 : decode cX9_touched 17 = .ok (.ifCond .ne 5, 3) := by decide +kernel
theorem dX9_touched_20 : decode cX9_touched 20 = .ok (.iconst 0, 1) := by decide +kernel
theorem dX9_touched_21 : decode cX9_touched 21 = .ok (.ireturn, 1) := by decide +kernel
theorem dX9_touched_22 : decode cX9_touched 22 = .ok (.iconst 0, 1) := by decide +kernel
theorem dX9_touched_23 : decode cX9_touched 23 = .ok (.istore_n 3, 1) := by decide +kernel
theorem dX9_touched_24 : decode cX9_touched 24 = .ok (.aload_n 0, 1) := by decide +kernel
theorem dX9_touched_25 : decode cX9_touched 25 = .ok (.getfield 31, 3) := by decide +kernel
theorem dX9_touched_28 : decode cX9_touched 28 = .ok (.iload_n 1, 1) := by decide +kernel
theorem dX9_touched_29 : decode cX9_touched 29 = .ok (.iaload, 1) := by decide +kernel
theorem dX9_touched_30 : decode cX9_touched 30 = .ok (.istore 4, 2) := by decide +kernel
theorem dX9_touched_32 : decode cX9_touched 32 = .ok (.iconst 0, 1) := by decide +kernel
theorem dX9_touched_33 : decode cX9_touched 33 = .ok (.istore 5, 2) := by decide +kernel
theorem dX9_touched_35 : decode cX9_touched 35 = .ok (.iload 5, 2) := by decide +kernel
theorem dX9_touched_37 : decode cX9_touched 37 = .ok (.aload_n 0, 1) := by decide +kernel
theorem dX9_touched_38 : decode cX9_touched 38 = .ok (.getfield 265, 3) := by decide +kernel
theorem dX9_touched_41 : decode cX9_touched 41 = .ok (.if_icmp .ge 159, 3) := by decide +kernel
theorem dX9_touched_44 : decode cX9_touched 44 = .ok (.aload_n 0, 1) := by decide +kernel
theorem dX9_touched_45 : decode cX9_touched 45 = .ok (.aload_n 0, 1) := by decide +kernel
theorem dX9_touched_46 : decode cX9_touched 46 = .ok (.getfield 108, 3) := by decide +kernel
theorem dX9_touched_49 : decode cX9_touched 49 = .ok (.iload 5, 2) := by decide +kernel
theorem dX9_touched_51 : decode cX9_touched 51 = .ok (.iaload, 1) := by decide +kernel
theorem dX9_touched_52 : decode cX9_touched 52 = .ok (.invokevirtual 255, 3) := by decide +kernel
theorem dX9_touched_55 : decode cX9_touched 55 = .ok (.aload_n 0, 1) := by decide +kernel
theorem dX9_touched_56 : decode cX9_touched 56 = .ok (.getfield 238, 3) := by decide +kernel
theorem dX9_touched_59 : decode cX9_touched 59 = .ok (.istore 6, 2) := by decide +kernel
theorem dX9_touched_61 : decode cX9_touched 61 = .ok (.iconst 0, 1) := by decide +kernel
theorem dX9_touched_62 : decode cX9_touched 62 = .ok (.istore 7, 2) := by decide +kernel
theorem dX9_touched_64 : decode cX9_touched 64 = .ok (.iload 7, 2) := by decide +kernel
theorem dX9_touched_66 : decode cX9_touched 66 = .ok (.iload 6, 2) := by decide +kernel
theorem dX9_touched_68 : decode cX9_touched 68 = .ok (.if_icmp .ge 23, 3) := by decide +kernel
theorem dX9_touched_71 : decode cX9_touched 71 = .ok (.aload_n 0, 1) := by decide +kernel
theorem dX9_touched_72 : decode cX9_touched 72 = .ok (.getfield 120, 3) := by decide +kernel
theorem dX9_touched_75 : decode cX9_touched 75 = .ok (.iload 7, 2) := by decide +kernel
theorem dX9_touched_77 : decode cX9_touched 77 = .ok (.aload_n 0, 1) := by decide +kernel
theorem dX9_touched_78 : decode cX9_touched 78 = .ok (.getfield 90, 3) := by decide +kernel
theorem dX9_touched_81 : decode cX9_touched 81 = .ok (.iload 7, 2) := by decide +kernel
theorem dX9_touched_83 : decode cX9_touched 83 = .ok (.iaload, 1) := by decide +kernel
theorem dX9_touched_84 : decode cX9_touched 84 = .ok (.iastore, 1) := by decide +kernel
theorem dX9_touched_85 : decode cX9_touched 85 = .ok (.iinc 7 1, 3) := by decide +kernel
theorem dX9_touched_88 : decode cX9_touched 88 = .ok (.goto (-24), 3) := by decide +kernel
theorem dX9_touched_91 : decode cX9_touched 91 = .ok (.aload_n 0, 1) := by decide +kernel
theorem dX9_touched_92 : decode cX9_touched 92 = .ok (.getfield 31, 3) := by decide +kernel
theorem dX9_touched_95 : decode cX9_touched 95 = .ok (.iload_n 1, 1) := by decide +kernel
theorem dX9_touched_96 : decode cX9_touched 96 = .ok (.iload_n 2, 1) := by decide +kernel
theorem dX9_touched_97 : decode cX9_touched 97 = .ok (.iastore, 1) := by decide +kernel
theorem dX9_touched_98 : decode cX9_touched 98 = .ok (.aload_n 0, 1) := by decide +kernel
theorem dX9_touched_99 : decode cX9_touched 99 = .ok (.aload_n 0, 1) := by decide +kernel
theorem dX9_touched_100 : decode cX9_touched 100 = .ok (.getfield 108, 3) := by decide +kernel
theorem dX9_touched_103 : decode cX9_touched 103 = .ok (.iload 5, 2) := by decide +kernel
theorem dX9_touched_105 : decode cX9_touched 105 = .ok (.iaload, 1) := by decide +kernel
theorem dX9_touched_106 : decode cX9_touched 106 = .ok (.invokevirtual 255, 3) := by decide +kernel
theorem dX9_touched_109 : decode cX9_touched 109 = .ok (.aload_n 0, 1) := by decide +kernel
theorem dX9_touched_110 : decode cX9_touched 110 = .ok (.getfield 31, 3) := by decide +kernel
theorem dX9_touched_113 : decode cX9_touched 113 = .ok (.iload_n 1, 1) := by decide +kernel
theorem dX9_touched_114 : decode cX9_touched 114 = .ok (.iload 4, 2) := by decide +kernel
theorem dX9_touched_116 : decode cX9_touched 116 = .ok (.iastore, 1) := by decide +kernel
theorem dX9_touched_117 : decode cX9_touched 117 = .ok (.iload 6, 2) := by decide +kernel
theorem dX9_touched_119 : decode cX9_touched 119 = .ok (.aload_n 0, 1) := by decide +kernel
theorem dX9_touched_120 : decode cX9_touched 120 = .ok (.getfield 238, 3) := by decide +kernel
theorem dX9_touched_123 : decode cX9_touched 123 = .ok (.if_icmp .ne 7, 3) := by decide +kernel
theorem dX9_touched_126 : decode cX9_touched 126 = .ok (.iconst 1, 1) := by decide +kernel
theorem dX9_touched_127 : decode cX9_touched 127 = .ok (.goto 4, 3) := by decide +kernel
theorem dX9_touched_130 : decode cX9_touched 130 = .ok (.iconst 0, 1) := by decide +kernel
theorem dX9_touched_131 : decode cX9_touched 131 = .ok (.istore 7, 2) := by decide +kernel
theorem dX9_touched_133 : decode cX9_touched 133 = .ok (.iconst 0, 1) := by decide +kernel
theorem dX9_touched_134 : decode cX9_touched 134 = .ok (.istore 8, 2) := by decide +kernel
theorem dX9_touched_136 : decode cX9_touched 136 = .ok (.iload 8, 2) := by decide +kernel
theorem dX9_touched_138 : decode cX9_touched 138 = .ok (.iload 6, 2) := by decide +kernel
theorem dX9_touched_140 : decode cX9_touched 140 = .ok (.if_icmp .ge 38, 3) := by decide +kernel
theorem dX9_touched_143 : decode cX9_touched 143 = .ok (.iload 7, 2) := by decide +kernel
theorem dX9_touched_145 : decode cX9_touched 145 = .ok (.ifCond .eq 33, 3) := by decide +kernel
theorem dX9_touched_148 : decode cX9_touched 148 = .ok (.aload_n 0, 1) := by decide +kernel
theorem dX9_touched_149 : decode cX9_touched 149 = .ok (.getfield 120, 3) := by decide +kernel
theorem dX9_touched_152 : decode cX9_touched 152 = .ok (.iload 8, 2) := by decide +kernel
theorem dX9_touched_154 : decode cX9_touched 154 = .ok (.iaload, 1) := by decide +kernel
theorem dX9_touched_155 : decode cX9_touched 155 = .ok (.aload_n 0, 1) := by decide +kernel
theorem dX9_touched_156 : decode cX9_touched 156 = .ok (.getfield 90, 3) := by decide +kernel
theorem dX9_touched_159 : decode cX9_touched 159 = .ok (.iload 8, 2) := by decide +kernel
theorem dX9_touched_161 : decode cX9_touched 161 = .ok (.iaload, 1) := by decide +kernel
theorem dX9_touched_162 : decode cX9_touched 162 = .ok (.if_icmp .ne 7, 3) := by decide +kernel
theorem dX9_touched_165 : decode cX9_touched 165 = .ok (.iconst 1, 1) := by decide +kernel
theorem dX9_touched_166 : decode cX9_touched 166 = .ok (.goto 4, 3) := by decide +kernel
theorem dX9_touched_169 : decode cX9_touched 169 = .ok (.iconst 0, 1) := by decide +kernel
theorem dX9_touched_170 : decode cX9_touched 170 = .ok (.istore 7, 2) := by decide +kernel
theorem dX9_touched_172 : decode cX9_touched 172 = .ok (.iinc 8 1, 3) := by decide +kernel
theorem dX9_touched_175 : decode cX9_touched 175 = .ok (.goto (-39), 3) := by decide +kernel
theorem dX9_touched_178 : decode cX9_touched 178 = .ok (.iload_n 3, 1) := by decide +kernel
theorem dX9_touched_179 : decode cX9_touched 179 = .ok (.iload 7, 2) := by decide +kernel
theorem dX9_touched_181 : decode cX9_touched 181 = .ok (.ifCond .eq 7, 3) := by decide +kernel
theorem dX9_touched_184 : decode cX9_touched 184 = .ok (.iconst 0, 1) := by decide +kernel
theorem dX9_touched_185 : decode cX9_touched 185 = .ok (.goto 7, 3) := by decide +kernel
theorem dX9_touched_188 : decode cX9_touched 188 = .ok (.iconst 1, 1) := by decide +kernel
theorem dX9_touched_189 : decode cX9_touched 189 = .ok (.iload 5, 2) := by decide +kernel
theorem dX9_touched_191 : decode cX9_touched 191 = .ok (.ishl, 1) := by decide +kernel
theorem dX9_touched_192 : decode cX9_touched 192 = .ok (.ior, 1) := by decide +kernel
theorem dX9_touched_193 : decode cX9_touched 193 = .ok (.istore_n 3, 1) := by decide +kernel
theorem dX9_touched_194 : decode cX9_touched 194 = .ok (.iinc 5 1, 3) := by decide +kernel
theorem dX9_touched_197 : decode cX9_touched 197 = .ok (.goto (-162), 3) := by decide +kernel
theorem dX9_touched_200 : decode cX9_touched 200 = .ok (.iload_n 3, 1) := by decide +kernel
theorem dX9_touched_201 : decode cX9_touched 201 = .ok (.ireturn, 1) := by decide +kernel
theorem dX9_count_0 : decode cX9_count 0 = .ok (.aload_n 0, 1) := by decide +kernel
theorem dX9_count_1 : decode cX9_count 1 = .ok (.iconst 0, 1) := by decide +kernel
theorem dX9_count_2 : decode cX9_count 2 = .ok (.putfield 123, 3) := by decide +kernel
theorem dX9_count_5 : decode cX9_count 5 = .ok (.iload_n 1, 1) := by decide +kernel
theorem dX9_count_6 : decode cX9_count 6 = .ok (.tableswitch 109 0 6 #[42, 79, 84, 89, 94, 99, 104], 42) := by decide +kernel
theorem dX9_count_48 : decode cX9_count 48 = .ok (.iconst 0, 1) := by decide +kernel
theorem dX9_count_49 : decode cX9_count 49 = .ok (.istore_n 2, 1) := by decide +kernel
theorem dX9_count_50 : decode cX9_count 50 = .ok (.iconst 0, 1) := by decide +kernel
theorem dX9_count_51 : decode cX9_count 51 = .ok (.istore_n 3, 1) := by decide +kernel
theorem dX9_count_52 : decode cX9_count 52 = .ok (.iload_n 3, 1) := by decide +kernel
theorem dX9_count_53 : decode cX9_count 53 = .ok (.aload_n 0, 1) := by decide +kernel
theorem dX9_count_54 : decode cX9_count 54 = .ok (.getfield 136, 3) := by decide +kernel
theorem dX9_count_57 : decode cX9_count 57 = .ok (.if_icmp .ge 26, 3) := by decide +kernel
theorem dX9_count_60 : decode cX9_count 60 = .ok (.iload_n 2, 1) := by decide +kernel
theorem dX9_count_61 : decode cX9_count 61 = .ok (.aload_n 0, 1) := by decide +kernel
theorem dX9_count_62 : decode cX9_count 62 = .ok (.getfield 37, 3) := by decide +kernel
theorem dX9_count_65 : decode cX9_count 65 = .ok (.iload_n 3, 1) := by decide +kernel
theorem dX9_count_66 : decode cX9_count 66 = .ok (.baload, 1) := by decide +kernel
theorem dX9_count_67 : decode cX9_count 67 = .ok (.ifCond .eq 7, 3) := by decide +kernel
theorem dX9_count_70 : decode cX9_count 70 = .ok (.iconst 1, 1) := by decide +kernel
theorem dX9_count_71 : decode cX9_count 71 = .ok (.goto 4, 3) := by decide +kernel
theorem dX9_count_74 : decode cX9_count 74 = .ok (.iconst 0, 1) := by decide +kernel
theorem dX9_count_75 : decode cX9_count 75 = .ok (.iadd, 1) := by decide +kernel
theorem dX9_count_76 : decode cX9_count 76 = .ok (.istore_n 2, 1) := by decide +kernel
theorem dX9_count_77 : decode cX9_count 77 = .ok (.iinc 3 1, 3) := by decide +kernel
theorem dX9_count_80 : decode cX9_count 80 = .ok (.goto (-28), 3) := by decide +kernel
theorem dX9_count_83 : decode cX9_count 83 = .ok (.iload_n 2, 1) := by decide +kernel
theorem dX9_count_84 : decode cX9_count 84 = .ok (.ireturn, 1) := by decide +kernel
theorem dX9_count_85 : decode cX9_count 85 = .ok (.aload_n 0, 1) := by decide +kernel
theorem dX9_count_86 : decode cX9_count 86 = .ok (.getfield 136, 3) := by decide +kernel
theorem dX9_count_89 : decode cX9_count 89 = .ok (.ireturn, 1) := by decide +kernel
theorem dX9_count_90 : decode cX9_count 90 = .ok (.aload_n 0, 1) := by decide +kernel
theorem dX9_count_91 : decode cX9_count 91 = .ok (.getfield 235, 3) := by decide +kernel
theorem dX9_count_94 : decode cX9_count 94 = .ok (.ireturn, 1) := by decide +kernel
theorem dX9_count_95 : decode cX9_count 95 = .ok (.aload_n 0, 1) := by decide +kernel
theorem dX9_count_96 : decode cX9_count 96 = .ok (.getfield 265, 3) := by decide +kernel
theorem dX9_count_99 : decode cX9_count 99 = .ok (.ireturn, 1) := by decide +kernel
theorem dX9_count_100 : decode cX9_count 100 = .ok (.aload_n 0, 1) := by decide +kernel
theorem dX9_count_101 : decode cX9_count 101 = .ok (.getfield 129, 3) := by decide +kernel
theorem dX9_count_104 : decode cX9_count 104 = .ok (.ireturn, 1) := by decide +kernel
theorem dX9_count_105 : decode cX9_count 105 = .ok (.aload_n 0, 1) := by decide +kernel
theorem dX9_count_106 : decode cX9_count 106 = .ok (.getfield 164, 3) := by decide +kernel
theorem dX9_count_109 : decode cX9_count 109 = .ok (.ireturn, 1) := by decide +kernel
theorem dX9_count_110 : decode cX9_count 110 = .ok (.aload_n 0, 1) := by decide +kernel
theorem dX9_count_111 : decode cX9_count 111 = .ok (.getfield 271, 3) := by decide +kernel
theorem dX9_count_114 : decode cX9_count 114 = .ok (.ireturn, 1) := by decide +kernel
theorem dX9_count_115 : decode cX9_count 115 = .ok (.iconst (-1), 1) := by decide +kernel
theorem dX9_count_116 : decode cX9_count 116 = .ok (.ireturn, 1) := by decide +kernel
theorem dX9_status_0 : decode cX9_status 0 = .ok (.aload_n 0, 1) := by decide +kernel
theorem dX9_status_1 : decode cX9_status 1 = .ok (.iconst 0, 1) := by decide +kernel
theorem dX9_status_2 : decode cX9_status 2 = .ok (.putfield 123, 3) := by decide +kernel
theorem dX9_status_5 : decode cX9_status 5 = .ok (.aload_n 0, 1) := by decide +kernel
theorem dX9_status_6 : decode cX9_status 6 = .ok (.getfield 126, 3) := by decide +kernel
theorem dX9_status_9 : decode cX9_status 9 = .ok (.ireturn, 1) := by decide +kernel
end
section
theorem dL_law_0 : decode cL_law 0 = .ok (.new 7, 3) := by decide +kernel
theorem dL_law_3 : decode cL_law 3 = .ok (.dup, 1) := by decide +kernel
theorem dL_law_4 : decode cL_law 4 = .ok (.invokespecial 9, 3) := by decide +kernel
theorem dL_law_7 : decode cL_law 7 = .ok (.astore_n 1, 1) := by decide +kernel
theorem dL_law_8 : decode cL_law 8 = .ok (.new 10, 3) := by decide +kernel
theorem dL_law_11 : decode cL_law 11 = .ok (.dup, 1) := by decide +kernel
theorem dL_law_12 : decode cL_law 12 = .ok (.invokespecial 12, 3) := by decide +kernel
theorem dL_law_15 : decode cL_law 15 = .ok (.astore_n 2, 1) := by decide +kernel
theorem dL_law_16 : decode cL_law 16 = .ok (.iconst 0, 1) := by decide +kernel
theorem dL_law_17 : decode cL_law 17 = .ok (.istore_n 3, 1) := by decide +kernel
theorem dL_law_18 : decode cL_law 18 = .ok (.iload_n 3, 1) := by decide +kernel
theorem dL_law_19 : decode cL_law 19 = .ok (.aload_n 0, 1) := by decide +kernel
theorem dL_law_20 : decode cL_law 20 = .ok (.arraylength, 1) := by decide +kernel
theorem dL_law_21 : decode cL_law 21 = .ok (.bipush 6, 2) := by decide +kernel
theorem dL_law_23 : decode cL_law 23 = .ok (.isub, 1) := by decide +kernel
theorem dL_law_24 : decode cL_law 24 = .ok (.if_icmp .gt 767, 3) := by decide +kernel
theorem dL_law_27 : decode cL_law 27 = .ok (.aload_n 0, 1) := by decide +kernel
theorem dL_law_28 : decode cL_law 28 = .ok (.iload_n 3, 1) := by decide +kernel
theorem dL_law_29 : decode cL_law 29 = .ok (.iaload, 1) := by decide +kernel
theorem dL_law_30 : decode cL_law 30 = .ok (.bipush 31, 2) := by decide +kernel
theorem dL_law_32 : decode cL_law 32 = .ok (.iand, 1) := by decide +kernel
theorem dL_law_33 : decode cL_law 33 = .ok (.tableswitch 752 0 20 #[99, 152, 185, 228, 251, 284, 347, 370, 383, 396, 419, 452, 505, 528, 541, 574, 597, 640, 683, 716, 739], 99) := by decide +kernel
theorem dL_law_132 : decode cL_law 132 = .ok (.aload_n 1, 1) := by decide +kernel
theorem dL_law_133 : decode cL_law 133 = .ok (.aload_n 0, 1) := by decide +kernel
theorem dL_law_134 : decode cL_law 134 = .ok (.iload_n 3, 1) := by decide +kernel
theorem dL_law_135 : decode cL_law 135 = .ok (.iconst 1, 1) := by decide +kernel
theorem dL_law_136 : decode cL_law 136 = .ok (.iadd, 1) := by decide +kernel
theorem dL_law_137 : decode cL_law 137 = .ok (.iaload, 1) := by decide +kernel
theorem dL_law_138 : decode cL_law 138 = .ok (.aload_n 0, 1) := by decide +kernel
theorem dL_law_139 : decode cL_law 139 = .ok (.iload_n 3, 1) := by decide +kernel
theorem dL_law_140 : decode cL_law 140 = .ok (.iconst 2, 1) := by decide +kernel
theorem dL_law_141 : decode cL_law 141 = .ok (.iadd, 1) := by decide +kernel
theorem dL_law_142 : decode cL_law 142 = .ok (.iaload, 1) := by decide +kernel
theorem dL_law_143 : decode cL_law 143 = .ok (.aload_n 0, 1) := by decide +kernel
theorem dL_law_144 : decode cL_law 144 = .ok (.iload_n 3, 1) := by decide +kernel
theorem dL_law_145 : decode cL_law 145 = .ok (.iconst 3, 1) := by decide +kernel
theorem dL_law_146 : decode cL_law 146 = .ok (.iadd, 1) := by decide +kernel
theorem dL_law_147 : decode cL_law 147 = .ok (.iaload, 1) := by decide +kernel
theorem dL_law_148 : decode cL_law 148 = .ok (.aload_n 0, 1) := by decide +kernel
theorem dL_law_149 : decode cL_law 149 = .ok (.iload_n 3, 1) := by decide +kernel
theorem dL_law_150 : decode cL_law 150 = .ok (.iconst 4, 1) := by decide +kernel
theorem dL_law_151 : decode cL_law 151 = .ok (.iadd, 1) := by decide +kernel
theorem dL_law_152 : decode cL_law 152 = .ok (.iaload, 1) := by decide +kernel
theorem dL_law_153 : decode cL_law 153 = .ok (.invokevirtual 13, 3) := by decide +kernel
theorem dL_law_156 : decode cL_law 156 = .ok (.aload_n 2, 1) := by decide +kernel
theorem dL_law_157 : decode cL_law 157 = .ok (.aload_n 0, 1) := by decide +kernel
theorem dL_law_158 : decode cL_law 158 = .ok (.iload_n 3, 1) := by decide +kernel
theorem dL_law_159 : decode cL_law 159 = .ok (.iconst 1, 1) := by decide +kernel
theorem dL_law_160 : decode cL_law 160 = .ok (.iadd, 1) := by decide +kernel
theorem dL_law_161 : decode cL_law 161 = .ok (.iaload, 1) := by decide +kernel
theorem dL_law_162 : decode cL_law 162 = .ok (.aload_n 0, 1) := by decide +kernel
theorem dL_law_163 : decode cL_law 163 = .ok (.iload_n 3, 1) := by decide +kernel
theorem dL_law_164 : decode cL_law 164 = .ok (.iconst 2, 1) := by decide +kernel
theorem dL_law_165 : decode cL_law 165 = .ok (.iadd, 1) := by decide +kernel
theorem dL_law_166 : decode cL_law 166 = .ok (.iaload, 1) := by decide +kernel
theorem dL_law_167 : decode cL_law 167 = .ok (.aload_n 0, 1) := by decide +kernel
theorem dL_law_168 : decode cL_law 168 = .ok (.iload_n 3, 1) := by decide +kernel
theorem dL_law_169 : decode cL_law 169 = .ok (.iconst 3, 1) := by decide +kernel
theorem dL_law_170 : decode cL_law 170 = .ok (.iadd, 1) := by decide +kernel
theorem dL_law_171 : decode cL_law 171 = .ok (.iaload, 1) := by decide +kernel
theorem dL_law_172 : decode cL_law 172 = .ok (.aload_n 0, 1) := by decide +kernel
theorem dL_law_173 : decode cL_law 173 = .ok (.iload_n 3, 1) := by decide +kernel
theorem dL_law_174 : decode cL_law 174 = .ok (.iconst 4, 1) := by decide +kernel
theorem dL_law_175 : decode cL_law 175 = .ok (.iadd, 1) := by decide +kernel
theorem dL_law_176 : decode cL_law 176 = .ok (.iaload, 1) := by decide +kernel
theorem dL_law_177 : decode cL_law 177 = .ok (.invokevirtual 17, 3) := by decide +kernel
theorem dL_law_180 : decode cL_law 180 = .ok (.if_icmp .eq 605, 3) := by decide +kernel
theorem dL_law_183 : decode cL_law 183 = .ok (.iconst 0, 1) := by decide +kernel
theorem dL_law_184 : decode cL_law 184 = .ok (.ireturn, 1) := by decide +kernel
theorem dL_law_185 : decode cL_law 185 = .ok (.aload_n 1, 1) := by decide +kernel
theorem dL_law_186 : decode cL_law 186 = .ok (.aload_n 0, 1) := by decide +kernel
theorem dL_law_187 : decode cL_law 187 = .ok (.iload_n 3, 1) := by decide +kernel
theorem dL_law_188 : decode cL_law 188 = .ok (.iconst 1, 1) := by decide +kernel
theorem dL_law_189 : decode cL_law 189 = .ok (.iadd, 1) := by decide +kernel
theorem dL_law_190 : decode cL_law 190 = .ok (.iaload, 1) := by decide +kernel
theorem dL_law_191 : decode cL_law 191 = .ok (.aload_n 0, 1) := by decide +kernel
theorem dL_law_192 : decode cL_law 192 = .ok (.iload_n 3, 1) := by decide +kernel
theorem dL_law_193 : decode cL_law 193 = .ok (.iconst 2, 1) := by decide +kernel
theorem dL_law_194 : decode cL_law 194 = .ok (.iadd, 1) := by decide +kernel
theorem dL_law_195 : decode cL_law 195 = .ok (.iaload, 1) := by decide +kernel
theorem dL_law_196 : decode cL_law 196 = .ok (.invokevirtual 18, 3) := by decide +kernel
theorem dL_law_199 : decode cL_law 199 = .ok (.aload_n 2, 1) := by decide +kernel
theorem dL_law_200 : decode cL_law 200 = .ok (.aload_n 0, 1) := by decide +kernel
theorem dL_law_201 : decode cL_law 201 = .ok (.iload_n 3, 1) := by decide +kernel
theorem dL_law_202 : decode cL_law 202 = .ok (.iconst 1, 1) := by decide +kernel
theorem dL_law_203 : decode cL_law 203 = .ok (.iadd, 1) := by decide +kernel
theorem dL_law_204 : decode cL_law 204 = .ok (.iaload, 1) := by decide +kernel
theorem dL_law_205 : decode cL_law 205 = .ok (.aload_n 0, 1) := by decide +kernel
theorem dL_law_206 : decode cL_law 206 = .ok (.iload_n 3, 1) := by decide +kernel
theorem dL_law_207 : decode cL_law 207 = .ok (.iconst 2, 1) := by decide +kernel
theorem dL_law_208 : decode cL_law 208 = .ok (.iadd, 1) := by decide +kernel
theorem dL_law_209 : decode cL_law 209 = .ok (.iaload, 1) := by decide +kernel
theorem dL_law_210 : decode cL_law 210 = .ok (.invokevirtual 22, 3) := by decide +kernel
theorem dL_law_213 : decode cL_law 213 = .ok (.if_icmp .eq 572, 3) := by decide +kernel
theorem dL_law_216 : decode cL_law 216 = .ok (.iconst 0, 1) := by decide +kernel
theorem dL_law_217 : decode cL_law 217 = .ok (.ireturn, 1) := by decide +kernel
theorem dL_law_218 : decode cL_law 218 = .ok (.aload_n 1, 1) := by decide +kernel
theorem dL_law_219 : decode cL_law 219 = .ok (.aload_n 0, 1) := by decide +kernel
theorem dL_law_220 : decode cL_law 220 = .ok (.iload_n 3, 1) := by decide +kernel
theorem dL_law_221 : decode cL_law 221 = .ok (.iconst 1, 1) := by decide +kernel
theorem dL_law_222 : decode cL_law 222 = .ok (.iadd, 1) := by decide +kernel
theorem dL_law_223 : decode cL_law 223 = .ok (.iaload, 1) := by decide +kernel
theorem dL_law_224 : decode cL_law 224 = .ok (.aload_n 0, 1) := by decide +kernel
theorem dL_law_225 : decode cL_law 225 = .ok (.iload_n 3, 1) := by decide +kernel
theorem dL_law_226 : decode cL_law 226 = .ok (.iconst 2, 1) := by decide +kernel
theorem dL_law_227 : decode cL_law 227 = .ok (.iadd, 1) := by decide +kernel
theorem dL_law_228 : decode cL_law 228 = .ok (.iaload, 1) := by decide +kernel
theorem dL_law_229 : decode cL_law 229 = .ok (.aload_n 0, 1) := by decide +kernel
theorem dL_law_230 : decode cL_law 230 = .ok (.iload_n 3, 1) := by decide +kernel
theorem dL_law_231 : decode cL_law 231 = .ok (.iconst 3, 1) := by decide +kernel
theorem dL_law_232 : decode cL_law 232 = .ok (.iadd, 1) := by decide +kernel
theorem dL_law_233 : decode cL_law 233 = .ok (.iaload, 1) := by decide +kernel
theorem dL_law_234 : decode cL_law 234 = .ok (.invokevirtual 23, 3) := by decide +kernel
theorem dL_law_237 : decode cL_law 237 = .ok (.aload_n 2, 1) := by decide +kernel
theorem dL_law_238 : decode cL_law 238 = .ok (.aload_n 0, 1) := by decide +kernel
theorem dL_law_239 : decode cL_law 239 = .ok (.iload_n 3, 1) := by decide +kernel
theorem dL_law_240 : decode cL_law 240 = .ok (.iconst 1, 1) := by decide +kernel
theorem dL_law_241 : decode cL_law 241 = .ok (.iadd, 1) := by decide +kernel
theorem dL_law_242 : decode cL_law 242 = .ok (.iaload, 1) := by decide +kernel
theorem dL_law_243 : decode cL_law 243 = .ok (.aload_n 0, 1) := by decide +kernel
theorem dL_law_244 : decode cL_law 244 = .ok (.iload_n 3, 1) := by decide +kernel
theorem dL_law_245 : decode cL_law 245 = .ok (.iconst 2, 1) := by decide +kernel
theorem dL_law_246 : decode cL_law 246 = .ok (.iadd, 1) := by decide +kernel
theorem dL_law_247 : decode cL_law 247 = .ok (.iaload, 1) := by decide +kernel
theorem dL_law_248 : decode cL_law 248 = .ok (.aload_n 0, 1) := by decide +kernel
theorem dL_law_249 : decode cL_law 249 = .ok (.iload_n 3, 1) := by decide +kernel
theorem dL_law_250 : decode cL_law 250 = .ok (.iconst 3, 1) := by decide +kernel
theorem dL_law_251 : decode cL_law 251 = .ok (.iadd, 1) := by decide +kernel
theorem dL_law_252 : decode cL_law 252 = .ok (.iaload, 1) := by decide +kernel
theorem dL_law_253 : decode cL_law 253 = .ok (.invokevirtual 27, 3) := by decide +kernel
theorem dL_law_256 : decode cL_law 256 = .ok (.if_icmp .eq 529, 3) := by decide +kernel
theorem dL_law_259 : decode cL_law 259 = .ok (.iconst 0, 1) := by decide +kernel
theorem dL_law_260 : decode cL_law 260 = .ok (.ireturn, 1) := by decide +kernel
theorem dL_law_261 : decode cL_law 261 = .ok (.aload_n 1, 1) := by decide +kernel
theorem dL_law_262 : decode cL_law 262 = .ok (.aload_n 0, 1) := by decide +kernel
theorem dL_law_263 : decode cL_law 263 = .ok (.iload_n 3, 1) := by decide +kernel
theorem dL_law_264 : decode cL_law 264 = .ok (.iconst 1, 1) := by decide +kernel
theorem dL_law_265 : decode cL_law 265 = .ok (.iadd, 1) := by decide +kernel
theorem dL_law_266 : decode cL_law 266 = .ok (.iaload, 1) := by decide +kernel
theorem dL_law_267 : decode cL_law 267 = .ok (.invokevirtual 28, 3) := by decide +kernel
theorem dL_law_270 : decode cL_law 270 = .ok (.aload_n 2, 1) := by decide +kernel
theorem dL_law_271 : decode cL_law 271 = .ok (.aload_n 0, 1) := by decide +kernel
theorem dL_law_272 : decode cL_law 272 = .ok (.iload_n 3, 1) := by decide +kernel
theorem dL_law_273 : decode cL_law 273 = .ok (.iconst 1, 1) := by decide +kernel
theorem dL_law_274 : decode cL_law 274 = .ok (.iadd, 1) := by decide +kernel
theorem dL_law_275 : decode cL_law 275 = .ok (.iaload, 1) := by decide +kernel
theorem dL_law_276 : decode cL_law 276 = .ok (.invokevirtual 32, 3) := by decide +kernel
theorem dL_law_279 : decode cL_law 279 = .ok (.if_icmp .eq 506, 3) := by decide +kernel
theorem dL_law_282 : decode cL_law 282 = .ok (.iconst 0, 1) := by decide +kernel
theorem dL_law_283 : decode cL_law 283 = .ok (.ireturn, 1) := by decide +kernel
theorem dL_law_284 : decode cL_law 284 = .ok (.aload_n 1, 1) := by decide +kernel
theorem dL_law_285 : decode cL_law 285 = .ok (.aload_n 0, 1) := by decide +kernel
theorem dL_law_286 : decode cL_law 286 = .ok (.iload_n 3, 1) := by decide +kernel
theorem dL_law_287 : decode cL_law 287 = .ok (.iconst 1, 1) := by decide +kernel
theorem dL_law_288 : decode cL_law 288 = .ok (.iadd, 1) := by decide +kernel
theorem dL_law_289 : decode cL_law 289 = .ok (.iaload, 1) := by decide +kernel
theorem dL_law_290 : decode cL_law 290 = .ok (.aload_n 0, 1) := by decide +kernel
theorem dL_law_291 : decode cL_law 291 = .ok (.iload_n 3, 1) := by decide +kernel
theorem dL_law_292 : decode cL_law 292 = .ok (.iconst 2, 1) := by decide +kernel
theorem dL_law_293 : decode cL_law 293 = .ok (.iadd, 1) := by decide +kernel
theorem dL_law_294 : decode cL_law 294 = .ok (.iaload, 1) := by decide +kernel
theorem dL_law_295 : decode cL_law 295 = .ok (.invokevirtual 33, 3) := by decide +kernel
theorem dL_law_298 : decode cL_law 298 = .ok (.aload_n 2, 1) := by decide +kernel
theorem dL_law_299 : decode cL_law 299 = .ok (.aload_n 0, 1) := by decide +kernel
theorem dL_law_300 : decode cL_law 300 = .ok (.iload_n 3, 1) := by decide +kernel
theorem dL_law_301 : decode cL_law 301 = .ok (.iconst 1, 1) := by decide +kernel
theorem dL_law_302 : decode cL_law 302 = .ok (.iadd, 1) := by decide +kernel
theorem dL_law_303 : decode cL_law 303 = .ok (.iaload, 1) := by decide +kernel
theorem dL_law_304 : decode cL_law 304 = .ok (.aload_n 0, 1) := by decide +kernel
theorem dL_law_305 : decode cL_law 305 = .ok (.iload_n 3, 1) := by decide +kernel
theorem dL_law_306 : decode cL_law 306 = .ok (.iconst 2, 1) := by decide +kernel
theorem dL_law_307 : decode cL_law 307 = .ok (.iadd, 1) := by decide +kernel
theorem dL_law_308 : decode cL_law 308 = .ok (.iaload, 1) := by decide +kernel
theorem dL_law_309 : decode cL_law 309 = .ok (.invokevirtual 36, 3) := by decide +kernel
theorem dL_law_312 : decode cL_law 312 = .ok (.if_icmp .eq 473, 3) := by decide +kernel
theorem dL_law_315 : decode cL_law 315 = .ok (.iconst 0, 1) := by decide +kernel
theorem dL_law_316 : decode cL_law 316 = .ok (.ireturn, 1) := by decide +kernel
theorem dL_law_317 : decode cL_law 317 = .ok (.aload_n 1, 1) := by decide +kernel
theorem dL_law_318 : decode cL_law 318 = .ok (.aload_n 0, 1) := by decide +kernel
theorem dL_law_319 : decode cL_law 319 = .ok (.iload_n 3, 1) := by decide +kernel
theorem dL_law_320 : decode cL_law 320 = .ok (.iconst 1, 1) := by decide +kernel
theorem dL_law_321 : decode cL_law 321 = .ok (.iadd, 1) := by decide +kernel
theorem dL_law_322 : decode cL_law 322 = .ok (.iaload, 1) := by decide +kernel
theorem dL_law_323 : decode cL_law 323 = .ok (.aload_n 0, 1) := by decide +kernel
theorem dL_law_324 : decode cL_law 324 = .ok (.iload_n 3, 1) := by decide +kernel
theorem dL_law_325 : decode cL_law 325 = .ok (.iconst 2, 1) := by decide +kernel
theorem dL_law_326 : decode cL_law 326 = .ok (.iadd, 1) := by decide +kernel
theorem dL_law_327 : decode cL_law 327 = .ok (.iaload, 1) := by decide +kernel
theorem dL_law_328 : decode cL_law 328 = .ok (.aload_n 0, 1) := by decide +kernel
theorem dL_law_329 : decode cL_law 329 = .ok (.iload_n 3, 1) := by decide +kernel
theorem dL_law_330 : decode cL_law 330 = .ok (.iconst 3, 1) := by decide +kernel
theorem dL_law_331 : decode cL_law 331 = .ok (.iadd, 1) := by decide +kernel
theorem dL_law_332 : decode cL_law 332 = .ok (.iaload, 1) := by decide +kernel
theorem dL_law_333 : decode cL_law 333 = .ok (.aload_n 0, 1) := by decide +kernel
theorem dL_law_334 : decode cL_law 334 = .ok (.iload_n 3, 1) := by decide +kernel
theorem dL_law_335 : decode cL_law 335 = .ok (.iconst 4, 1) := by decide +kernel
theorem dL_law_336 : decode cL_law 336 = .ok (.iadd, 1) := by decide +kernel
theorem dL_law_337 : decode cL_law 337 = .ok (.iaload, 1) := by decide +kernel
theorem dL_law_338 : decode cL_law 338 = .ok (.aload_n 0, 1) := by decide +kernel
theorem dL_law_339 : decode cL_law 339 = .ok (.iload_n 3, 1) := by decide +kernel
theorem dL_law_340 : decode cL_law 340 = .ok (.iconst 5, 1) := by decide +kernel
theorem dL_law_341 : decode cL_law 341 = .ok (.iadd, 1) := by decide +kernel
theorem dL_law_342 : decode cL_law 342 = .ok (.iaload, 1) := by decide +kernel
theorem dL_law_343 : decode cL_law 343 = .ok (.invokevirtual 37, 3) := by decide +kernel
theorem dL_law_346 : decode cL_law 346 = .ok (.aload_n 2, 1) := by decide +kernel
theorem dL_law_347 : decode cL_law 347 = .ok (.aload_n 0, 1) := by decide +kernel
theorem dL_law_348 : decode cL_law 348 = .ok (.iload_n 3, 1) := by decide +kernel
theorem dL_law_349 : decode cL_law 349 = .ok (.iconst 1, 1) := by decide +kernel
theorem dL_law_350 : decode cL_law 350 = .ok (.iadd, 1) := by decide +kernel
theorem dL_law_351 : decode cL_law 351 = .ok (.iaload, 1) := by decide +kernel
theorem dL_law_352 : decode cL_law 352 = .ok (.aload_n 0, 1) := by decide +kernel
theorem dL_law_353 : decode cL_law 353 = .ok (.iload_n 3, 1) := by decide +kernel
theorem dL_law_354 : decode cL_law 354 = .ok (.iconst 2, 1) := by decide +kernel
theorem dL_law_355 : decode cL_law 355 = .ok (.iadd, 1) := by decide +kernel
theorem dL_law_356 : decode cL_law 356 = .ok (.iaload, 1) := by decide +kernel
theorem dL_law_357 : decode cL_law 357 = .ok (.aload_n 0, 1) := by decide +kernel
theorem dL_law_358 : decode cL_law 358 = .ok (.iload_n 3, 1) := by decide +kernel
theorem dL_law_359 : decode cL_law 359 = .ok (.iconst 3, 1) := by decide +kernel
theorem dL_law_360 : decode cL_law 360 = .ok (.iadd, 1) := by decide +kernel
theorem dL_law_361 : decode cL_law 361 = .ok (.iaload, 1) := by decide +kernel
theorem dL_law_362 : decode cL_law 362 = .ok (.aload_n 0, 1) := by decide +kernel
theorem dL_law_363 : decode cL_law 363 = .ok (.iload_n 3, 1) := by decide +kernel
theorem dL_law_364 : decode cL_law 364 = .ok (.iconst 4, 1) := by decide +kernel
theorem dL_law_365 : decode cL_law 365 = .ok (.iadd, 1) := by decide +kernel
theorem dL_law_366 : decode cL_law 366 = .ok (.iaload, 1) := by decide +kernel
theorem dL_law_367 : decode cL_law 367 = .ok (.aload_n 0, 1) := by decide +kernel
theorem dL_law_368 : decode cL_law 368 = .ok (.iload_n 3, 1) := by decide +kernel
theorem dL_law_369 : decode cL_law 369 = .ok (.iconst 5, 1) := by decide +kernel
theorem dL_law_370 : decode cL_law 370 = .ok (.iadd, 1) := by decide +kernel
theorem dL_law_371 : decode cL_law 371 = .ok (.iaload, 1) := by decide +kernel
theorem dL_law_372 : decode cL_law 372 = .ok (.invokevirtual 41, 3) := by decide +kernel
theorem dL_law_375 : decode cL_law 375 = .ok (.if_icmp .eq 410, 3) := by decide +kernel
theorem dL_law_378 : decode cL_law 378 = .ok (.iconst 0, 1) := by decide +kernel
theorem dL_law_379 : decode cL_law 379 = .ok (.ireturn, 1) := by decide +kernel
theorem dL_law_380 : decode cL_law 380 = .ok (.aload_n 1, 1) := by decide +kernel
theorem dL_law_381 : decode cL_law 381 = .ok (.aload_n 0, 1) := by decide +kernel
theorem dL_law_382 : decode cL_law 382 = .ok (.iload_n 3, 1) := by decide +kernel
theorem dL_law_383 : decode cL_law 383 = .ok (.iconst 1, 1) := by decide +kernel
theorem dL_law_384 : decode cL_law 384 = .ok (.iadd, 1) := by decide +kernel
theorem dL_law_385 : decode cL_law 385 = .ok (.iaload, 1) := by decide +kernel
theorem dL_law_386 : decode cL_law 386 = .ok (.invokevirtual 42, 3) := by decide +kernel
theorem dL_law_389 : decode cL_law 389 = .ok (.aload_n 2, 1) := by decide +kernel
theorem dL_law_390 : decode cL_law 390 = .ok (.aload_n 0, 1) := by decide +kernel
theorem dL_law_391 : decode cL_law 391 = .ok (.iload_n 3, 1) := by decide +kernel
theorem dL_law_392 : decode cL_law 392 = .ok (.iconst 1, 1) := by decide +kernel
theorem dL_law_393 : decode cL_law 393 = .ok (.iadd, 1) := by decide +kernel
theorem dL_law_394 : decode cL_law 394 = .ok (.iaload, 1) := by decide +kernel
theorem dL_law_395 : decode cL_law 395 = .ok (.invokevirtual 45, 3) := by decide +kernel
theorem dL_law_398 : decode cL_law 398 = .ok (.if_icmp .eq 387, 3) := by decide +kernel
theorem dL_law_401 : decode cL_law 401 = .ok (.iconst 0, 1) := by decide +kernel
theorem dL_law_402 : decode cL_law 402 = .ok (.ireturn, 1) := by decide +kernel
theorem dL_law_403 : decode cL_law 403 = .ok (.aload_n 1, 1) := by decide +kernel
theorem dL_law_404 : decode cL_law 404 = .ok (.invokevirtual 46, 3) := by decide +kernel
theorem dL_law_407 : decode cL_law 407 = .ok (.aload_n 2, 1) := by decide +kernel
theorem dL_law_408 : decode cL_law 408 = .ok (.invokevirtual 50, 3) := by decide +kernel
theorem dL_law_411 : decode cL_law 411 = .ok (.if_icmp .eq 374, 3) := by decide +kernel
theorem dL_law_414 : decode cL_law 414 = .ok (.iconst 0, 1) := by decide +kernel
theorem dL_law_415 : decode cL_law 415 = .ok (.ireturn, 1) := by decide +kernel
theorem dL_law_416 : decode cL_law 416 = .ok (.aload_n 1, 1) := by decide +kernel
theorem dL_law_417 : decode cL_law 417 = .ok (.invokevirtual 51, 3) := by decide +kernel
theorem dL_law_420 : decode cL_law 420 = .ok (.aload_n 2, 1) := by decide +kernel
theorem dL_law_421 : decode cL_law 421 = .ok (.invokevirtual 54, 3) := by decide +kernel
theorem dL_law_424 : decode cL_law 424 = .ok (.if_icmp .eq 361, 3) := by decide +kernel
theorem dL_law_427 : decode cL_law 427 = .ok (.iconst 0, 1) := by decide +kernel
theorem dL_law_428 : decode cL_law 428 = .ok (.ireturn, 1) := by decide +kernel
theorem dL_law_429 : decode cL_law 429 = .ok (.aload_n 1, 1) := by decide +kernel
theorem dL_law_430 : decode cL_law 430 = .ok (.aload_n 0, 1) := by decide +kernel
theorem dL_law_431 : decode cL_law 431 = .ok (.iload_n 3, 1) := by decide +kernel
theorem dL_law_432 : decode cL_law 432 = .ok (.iconst 1, 1) := by decide +kernel
theorem dL_law_433 : decode cL_law 433 = .ok (.iadd, 1) := by decide +kernel
theorem dL_law_434 : decode cL_law 434 = .ok (.iaload, 1) := by decide +kernel
theorem dL_law_435 : decode cL_law 435 = .ok (.invokevirtual 55, 3) := by decide +kernel
theorem dL_law_438 : decode cL_law 438 = .ok (.aload_n 2, 1) := by decide +kernel
theorem dL_law_439 : decode cL_law 439 = .ok (.aload_n 0, 1) := by decide +kernel
theorem dL_law_440 : decode cL_law 440 = .ok (.iload_n 3, 1) := by decide +kernel
theorem dL_law_441 : decode cL_law 441 = .ok (.iconst 1, 1) := by decide +kernel
theorem dL_law_442 : decode cL_law 442 = .ok (.iadd, 1) := by decide +kernel
theorem dL_law_443 : decode cL_law 443 = .ok (.iaload, 1) := by decide +kernel
theorem dL_law_444 : decode cL_law 444 = .ok (.invokevirtual 58, 3) := by decide +kernel
theorem dL_law_447 : decode cL_law 447 = .ok (.if_icmp .eq 338, 3) := by decide +kernel
theorem dL_law_450 : decode cL_law 450 = .ok (.iconst 0, 1) := by decide +kernel
theorem dL_law_451 : decode cL_law 451 = .ok (.ireturn, 1) := by decide +kernel
theorem dL_law_452 : decode cL_law 452 = .ok (.aload_n 1, 1) := by decide +kernel
theorem dL_law_453 : decode cL_law 453 = .ok (.aload_n 0, 1) := by decide +kernel
theorem dL_law_454 : decode cL_law 454 = .ok (.iload_n 3, 1) := by decide +kernel
theorem dL_law_455 : decode cL_law 455 = .ok (.iconst 1, 1) := by decide +kernel
theorem dL_law_456 : decode cL_law 456 = .ok (.iadd, 1) := by decide +kernel
theorem dL_law_457 : decode cL_law 457 = .ok (.iaload, 1) := by decide +kernel
theorem dL_law_458 : decode cL_law 458 = .ok (.aload_n 0, 1) := by decide +kernel
theorem dL_law_459 : decode cL_law 459 = .ok (.iload_n 3, 1) := by decide +kernel
theorem dL_law_460 : decode cL_law 460 = .ok (.iconst 2, 1) := by decide +kernel
theorem dL_law_461 : decode cL_law 461 = .ok (.iadd, 1) := by decide +kernel
theorem dL_law_462 : decode cL_law 462 = .ok (.iaload, 1) := by decide +kernel
theorem dL_law_463 : decode cL_law 463 = .ok (.invokevirtual 59, 3) := by decide +kernel
theorem dL_law_466 : decode cL_law 466 = .ok (.aload_n 2, 1) := by decide +kernel
theorem dL_law_467 : decode cL_law 467 = .ok (.aload_n 0, 1) := by decide +kernel
theorem dL_law_468 : decode cL_law 468 = .ok (.iload_n 3, 1) := by decide +kernel
theorem dL_law_469 : decode cL_law 469 = .ok (.iconst 1, 1) := by decide +kernel
theorem dL_law_470 : decode cL_law 470 = .ok (.iadd, 1) := by decide +kernel
theorem dL_law_471 : decode cL_law 471 = .ok (.iaload, 1) := by decide +kernel
theorem dL_law_472 : decode cL_law 472 = .ok (.aload_n 0, 1) := by decide +kernel
theorem dL_law_473 : decode cL_law 473 = .ok (.iload_n 3, 1) := by decide +kernel
theorem dL_law_474 : decode cL_law 474 = .ok (.iconst 2, 1) := by decide +kernel
theorem dL_law_475 : decode cL_law 475 = .ok (.iadd, 1) := by decide +kernel
theorem dL_law_476 : decode cL_law 476 = .ok (.iaload, 1) := by decide +kernel
theorem dL_law_477 : decode cL_law 477 = .ok (.invokevirtual 62, 3) := by decide +kernel
theorem dL_law_480 : decode cL_law 480 = .ok (.if_icmp .eq 305, 3) := by decide +kernel
theorem dL_law_483 : decode cL_law 483 = .ok (.iconst 0, 1) := by decide +kernel
theorem dL_law_484 : decode cL_law 484 = .ok (.ireturn, 1) := by decide +kernel
theorem dL_law_485 : decode cL_law 485 = .ok (.aload_n 1, 1) := by decide +kernel
theorem dL_law_486 : decode cL_law 486 = .ok (.aload_n 0, 1) := by decide +kernel
theorem dL_law_487 : decode cL_law 487 = .ok (.iload_n 3, 1) := by decide +kernel
theorem dL_law_488 : decode cL_law 488 = .ok (.iconst 1, 1) := by decide +kernel
theorem dL_law_489 : decode cL_law 489 = .ok (.iadd, 1) := by decide +kernel
theorem dL_law_490 : decode cL_law 490 = .ok (.iaload, 1) := by decide +kernel
theorem dL_law_491 : decode cL_law 491 = .ok (.aload_n 0, 1) := by decide +kernel
theorem dL_law_492 : decode cL_law 492 = .ok (.iload_n 3, 1) := by decide +kernel
theorem dL_law_493 : decode cL_law 493 = .ok (.iconst 2, 1) := by decide +kernel
theorem dL_law_494 : decode cL_law 494 = .ok (.iadd, 1) := by decide +kernel
theorem dL_law_495 : decode cL_law 495 = .ok (.iaload, 1) := by decide +kernel
theorem dL_law_496 : decode cL_law 496 = .ok (.aload_n 0, 1) := by decide +kernel
theorem dL_law_497 : decode cL_law 497 = .ok (.iload_n 3, 1) := by decide +kernel
theorem dL_law_498 : decode cL_law 498 = .ok (.iconst 3, 1) := by decide +kernel
theorem dL_law_499 : decode cL_law 499 = .ok (.iadd, 1) := by decide +kernel
theorem dL_law_500 : decode cL_law 500 = .ok (.iaload, 1) := by decide +kernel
theorem dL_law_501 : decode cL_law 501 = .ok (.aload_n 0, 1) := by decide +kernel
theorem dL_law_502 : decode cL_law 502 = .ok (.iload_n 3, 1) := by decide +kernel
theorem dL_law_503 : decode cL_law 503 = .ok (.iconst 4, 1) := by decide +kernel
theorem dL_law_504 : decode cL_law 504 = .ok (.iadd, 1) := by decide +kernel
theorem dL_law_505 : decode cL_law 505 = .ok (.iaload, 1) := by decide +kernel
theorem dL_law_506 : decode cL_law 506 = .ok (.invokevirtual 63, 3) := by decide +kernel
theorem dL_law_509 : decode cL_law 509 = .ok (.aload_n 2, 1) := by decide +kernel
theorem dL_law_510 : decode cL_law 510 = .ok (.aload_n 0, 1) := by decide +kernel
theorem dL_law_511 : decode cL_law 511 = .ok (.iload_n 3, 1) := by decide +kernel
theorem dL_law_512 : decode cL_law 512 = .ok (.iconst 1, 1) := by decide +kernel
theorem dL_law_513 : decode cL_law 513 = .ok (.iadd, 1) := by decide +kernel
theorem dL_law_514 : decode cL_law 514 = .ok (.iaload, 1) := by decide +kernel
theorem dL_law_515 : decode cL_law 515 = .ok (.aload_n 0, 1) := by decide +kernel
theorem dL_law_516 : decode cL_law 516 = .ok (.iload_n 3, 1) := by decide +kernel
theorem dL_law_517 : decode cL_law 517 = .ok (.iconst 2, 1) := by decide +kernel
theorem dL_law_518 : decode cL_law 518 = .ok (.iadd, 1) := by decide +kernel
theorem dL_law_519 : decode cL_law 519 = .ok (.iaload, 1) := by decide +kernel
theorem dL_law_520 : decode cL_law 520 = .ok (.aload_n 0, 1) := by decide +kernel
theorem dL_law_521 : decode cL_law 521 = .ok (.iload_n 3, 1) := by decide +kernel
theorem dL_law_522 : decode cL_law 522 = .ok (.iconst 3, 1) := by decide +kernel
theorem dL_law_523 : decode cL_law 523 = .ok (.iadd, 1) := by decide +kernel
theorem dL_law_524 : decode cL_law 524 = .ok (.iaload, 1) := by decide +kernel
theorem dL_law_525 : decode cL_law 525 = .ok (.aload_n 0, 1) := by decide +kernel
theorem dL_law_526 : decode cL_law 526 = .ok (.iload_n 3, 1) := by decide +kernel
theorem dL_law_527 : decode cL_law 527 = .ok (.iconst 4, 1) := by decide +kernel
theorem dL_law_528 : decode cL_law 528 = .ok (.iadd, 1) := by decide +kernel
theorem dL_law_529 : decode cL_law 529 = .ok (.iaload, 1) := by decide +kernel
theorem dL_law_530 : decode cL_law 530 = .ok (.invokevirtual 66, 3) := by decide +kernel
theorem dL_law_533 : decode cL_law 533 = .ok (.if_icmp .eq 252, 3) := by decide +kernel
theorem dL_law_536 : decode cL_law 536 = .ok (.iconst 0, 1) := by decide +kernel
theorem dL_law_537 : decode cL_law 537 = .ok (.ireturn, 1) := by decide +kernel
theorem dL_law_538 : decode cL_law 538 = .ok (.aload_n 1, 1) := by decide +kernel
theorem dL_law_539 : decode cL_law 539 = .ok (.aload_n 0, 1) := by decide +kernel
theorem dL_law_540 : decode cL_law 540 = .ok (.iload_n 3, 1) := by decide +kernel
theorem dL_law_541 : decode cL_law 541 = .ok (.iconst 1, 1) := by decide +kernel
theorem dL_law_542 : decode cL_law 542 = .ok (.iadd, 1) := by decide +kernel
theorem dL_law_543 : decode cL_law 543 = .ok (.iaload, 1) := by decide +kernel
theorem dL_law_544 : decode cL_law 544 = .ok (.invokevirtual 67, 3) := by decide +kernel
theorem dL_law_547 : decode cL_law 547 = .ok (.aload_n 2, 1) := by decide +kernel
theorem dL_law_548 : decode cL_law 548 = .ok (.aload_n 0, 1) := by decide +kernel
theorem dL_law_549 : decode cL_law 549 = .ok (.iload_n 3, 1) := by decide +kernel
theorem dL_law_550 : decode cL_law 550 = .ok (.iconst 1, 1) := by decide +kernel
theorem dL_law_551 : decode cL_law 551 = .ok (.iadd, 1) := by decide +kernel
theorem dL_law_552 : decode cL_law 552 = .ok (.iaload, 1) := by decide +kernel
theorem dL_law_553 : decode cL_law 553 = .ok (.invokevirtual 70, 3) := by decide +kernel
theorem dL_law_556 : decode cL_law 556 = .ok (.if_icmp .eq 229, 3) := by decide +kernel
theorem dL_law_559 : decode cL_law 559 = .ok (.iconst 0, 1) := by decide +kernel
theorem dL_law_560 : decode cL_law 560 = .ok (.ireturn, 1) := by decide +kernel
theorem dL_law_561 : decode cL_law 561 = .ok (.aload_n 1, 1) := by decide +kernel
theorem dL_law_562 : decode cL_law 562 = .ok (.invokevirtual 71, 3) := by decide +kernel
theorem dL_law_565 : decode cL_law 565 = .ok (.aload_n 2, 1) := by decide +kernel
theorem dL_law_566 : decode cL_law 566 = .ok (.invokevirtual 74, 3) := by decide +kernel
theorem dL_law_569 : decode cL_law 569 = .ok (.if_icmp .eq 216, 3) := by decide +kernel
theorem dL_law_572 : decode cL_law 572 = .ok (.iconst 0, 1) := by decide +kernel
theorem dL_law_573 : decode cL_law 573 = .ok (.ireturn, 1) := by decide +kernel
theorem dL_law_574 : decode cL_law 574 = .ok (.aload_n 1, 1) := by decide +kernel
theorem dL_law_575 : decode cL_law 575 = .ok (.aload_n 0, 1) := by decide +kernel
theorem dL_law_576 : decode cL_law 576 = .ok (.iload_n 3, 1) := by decide +kernel
theorem dL_law_577 : decode cL_law 577 = .ok (.iconst 1, 1) := by decide +kernel
theorem dL_law_578 : decode cL_law 578 = .ok (.iadd, 1) := by decide +kernel
theorem dL_law_579 : decode cL_law 579 = .ok (.iaload, 1) := by decide +kernel
theorem dL_law_580 : decode cL_law 580 = .ok (.aload_n 0, 1) := by decide +kernel
theorem dL_law_581 : decode cL_law 581 = .ok (.iload_n 3, 1) := by decide +kernel
theorem dL_law_582 : decode cL_law 582 = .ok (.iconst 2, 1) := by decide +kernel
theorem dL_law_583 : decode cL_law 583 = .ok (.iadd, 1) := by decide +kernel
theorem dL_law_584 : decode cL_law 584 = .ok (.iaload, 1) := by decide +kernel
theorem dL_law_585 : decode cL_law 585 = .ok (.invokevirtual 75, 3) := by decide +kernel
theorem dL_law_588 : decode cL_law 588 = .ok (.aload_n 2, 1) := by decide +kernel
theorem dL_law_589 : decode cL_law 589 = .ok (.aload_n 0, 1) := by decide +kernel
theorem dL_law_590 : decode cL_law 590 = .ok (.iload_n 3, 1) := by decide +kernel
theorem dL_law_591 : decode cL_law 591 = .ok (.iconst 1, 1) := by decide +kernel
theorem dL_law_592 : decode cL_law 592 = .ok (.iadd, 1) := by decide +kernel
theorem dL_law_593 : decode cL_law 593 = .ok (.iaload, 1) := by decide +kernel
theorem dL_law_594 : decode cL_law 594 = .ok (.aload_n 0, 1) := by decide +kernel
theorem dL_law_595 : decode cL_law 595 = .ok (.iload_n 3, 1) := by decide +kernel
theorem dL_law_596 : decode cL_law 596 = .ok (.iconst 2, 1) := by decide +kernel
theorem dL_law_597 : decode cL_law 597 = .ok (.iadd, 1) := by decide +kernel
theorem dL_law_598 : decode cL_law 598 = .ok (.iaload, 1) := by decide +kernel
theorem dL_law_599 : decode cL_law 599 = .ok (.invokevirtual 78, 3) := by decide +kernel
theorem dL_law_602 : decode cL_law 602 = .ok (.if_icmp .eq 183, 3) := by decide +kernel
theorem dL_law_605 : decode cL_law 605 = .ok (.iconst 0, 1) := by decide +kernel
theorem dL_law_606 : decode cL_law 606 = .ok (.ireturn, 1) := by decide +kernel
theorem dL_law_607 : decode cL_law 607 = .ok (.aload_n 1, 1) := by decide +kernel
theorem dL_law_608 : decode cL_law 608 = .ok (.aload_n 0, 1) := by decide +kernel
theorem dL_law_609 : decode cL_law 609 = .ok (.iload_n 3, 1) := by decide +kernel
theorem dL_law_610 : decode cL_law 610 = .ok (.iconst 1, 1) := by decide +kernel
theorem dL_law_611 : decode cL_law 611 = .ok (.iadd, 1) := by decide +kernel
theorem dL_law_612 : decode cL_law 612 = .ok (.iaload, 1) := by decide +kernel
theorem dL_law_613 : decode cL_law 613 = .ok (.invokevirtual 79, 3) := by decide +kernel
theorem dL_law_616 : decode cL_law 616 = .ok (.aload_n 2, 1) := by decide +kernel
theorem dL_law_617 : decode cL_law 617 = .ok (.aload_n 0, 1) := by decide +kernel
theorem dL_law_618 : decode cL_law 618 = .ok (.iload_n 3, 1) := by decide +kernel
theorem dL_law_619 : decode cL_law 619 = .ok (.iconst 1, 1) := by decide +kernel
theorem dL_law_620 : decode cL_law 620 = .ok (.iadd, 1) := by decide +kernel
theorem dL_law_621 : decode cL_law 621 = .ok (.iaload, 1) := by decide +kernel
theorem dL_law_622 : decode cL_law 622 = .ok (.invokevirtual 82, 3) := by decide +kernel
theorem dL_law_625 : decode cL_law 625 = .ok (.if_icmp .eq 160, 3) := by decide +kernel
theorem dL_law_628 : decode cL_law 628 = .ok (.iconst 0, 1) := by decide +kernel
theorem dL_law_629 : decode cL_law 629 = .ok (.ireturn, 1) := by decide +kernel
theorem dL_law_630 : decode cL_law 630 = .ok (.aload_n 1, 1) := by decide +kernel
theorem dL_law_631 : decode cL_law 631 = .ok (.aload_n 0, 1) := by decide +kernel
theorem dL_law_632 : decode cL_law 632 = .ok (.iload_n 3, 1) := by decide +kernel
theorem dL_law_633 : decode cL_law 633 = .ok (.iconst 1, 1) := by decide +kernel
theorem dL_law_634 : decode cL_law 634 = .ok (.iadd, 1) := by decide +kernel
theorem dL_law_635 : decode cL_law 635 = .ok (.iaload, 1) := by decide +kernel
theorem dL_law_636 : decode cL_law 636 = .ok (.aload_n 0, 1) := by decide +kernel
theorem dL_law_637 : decode cL_law 637 = .ok (.iload_n 3, 1) := by decide +kernel
theorem dL_law_638 : decode cL_law 638 = .ok (.iconst 2, 1) := by decide +kernel
theorem dL_law_639 : decode cL_law 639 = .ok (.iadd, 1) := by decide +kernel
theorem dL_law_640 : decode cL_law 640 = .ok (.iaload, 1) := by decide +kernel
theorem dL_law_641 : decode cL_law 641 = .ok (.aload_n 0, 1) := by decide +kernel
theorem dL_law_642 : decode cL_law 642 = .ok (.iload_n 3, 1) := by decide +kernel
theorem dL_law_643 : decode cL_law 643 = .ok (.iconst 3, 1) := by decide +kernel
theorem dL_law_644 : decode cL_law 644 = .ok (.iadd, 1) := by decide +kernel
theorem dL_law_645 : decode cL_law 645 = .ok (.iaload, 1) := by decide +kernel
theorem dL_law_646 : decode cL_law 646 = .ok (.invokevirtual 83, 3) := by decide +kernel
theorem dL_law_649 : decode cL_law 649 = .ok (.aload_n 2, 1) := by decide +kernel
theorem dL_law_650 : decode cL_law 650 = .ok (.aload_n 0, 1) := by decide +kernel
theorem dL_law_651 : decode cL_law 651 = .ok (.iload_n 3, 1) := by decide +kernel
theorem dL_law_652 : decode cL_law 652 = .ok (.iconst 1, 1) := by decide +kernel
theorem dL_law_653 : decode cL_law 653 = .ok (.iadd, 1) := by decide +kernel
theorem dL_law_654 : decode cL_law 654 = .ok (.iaload, 1) := by decide +kernel
theorem dL_law_655 : decode cL_law 655 = .ok (.aload_n 0, 1) := by decide +kernel
theorem dL_law_656 : decode cL_law 656 = .ok (.iload_n 3, 1) := by decide +kernel
theorem dL_law_657 : decode cL_law 657 = .ok (.iconst 2, 1) := by decide +kernel
theorem dL_law_658 : decode cL_law 658 = .ok (.iadd, 1) := by decide +kernel
theorem dL_law_659 : decode cL_law 659 = .ok (.iaload, 1) := by decide +kernel
theorem dL_law_660 : decode cL_law 660 = .ok (.aload_n 0, 1) := by decide +kernel
theorem dL_law_661 : decode cL_law 661 = .ok (.iload_n 3, 1) := by decide +kernel
theorem dL_law_662 : decode cL_law 662 = .ok (.iconst 3, 1) := by decide +kernel
theorem dL_law_663 : decode cL_law 663 = .ok (.iadd, 1) := by decide +kernel
theorem dL_law_664 : decode cL_law 664 = .ok (.iaload, 1) := by decide +kernel
theorem dL_law_665 : decode cL_law 665 = .ok (.invokevirtual 86, 3) := by decide +kernel
theorem dL_law_668 : decode cL_law 668 = .ok (.if_icmp .eq 117, 3) := by decide +kernel
theorem dL_law_671 : decode cL_law 671 = .ok (.iconst 0, 1) := by decide +kernel
theorem dL_law_672 : decode cL_law 672 = .ok (.ireturn, 1) := by decide +kernel
theorem dL_law_673 : decode cL_law 673 = .ok (.aload_n 1, 1) := by decide +kernel
theorem dL_law_674 : decode cL_law 674 = .ok (.aload_n 0, 1) := by decide +kernel
theorem dL_law_675 : decode cL_law 675 = .ok (.iload_n 3, 1) := by decide +kernel
theorem dL_law_676 : decode cL_law 676 = .ok (.iconst 1, 1) := by decide +kernel
theorem dL_law_677 : decode cL_law 677 = .ok (.iadd, 1) := by decide +kernel
theorem dL_law_678 : decode cL_law 678 = .ok (.iaload, 1) := by decide +kernel
theorem dL_law_679 : decode cL_law 679 = .ok (.aload_n 0, 1) := by decide +kernel
theorem dL_law_680 : decode cL_law 680 = .ok (.iload_n 3, 1) := by decide +kernel
theorem dL_law_681 : decode cL_law 681 = .ok (.iconst 2, 1) := by decide +kernel
theorem dL_law_682 : decode cL_law 682 = .ok (.iadd, 1) := by decide +kernel
theorem dL_law_683 : decode cL_law 683 = .ok (.iaload, 1) := by decide +kernel
theorem dL_law_684 : decode cL_law 684 = .ok (.aload_n 0, 1) := by decide +kernel
theorem dL_law_685 : decode cL_law 685 = .ok (.iload_n 3, 1) := by decide +kernel
theorem dL_law_686 : decode cL_law 686 = .ok (.iconst 3, 1) := by decide +kernel
theorem dL_law_687 : decode cL_law 687 = .ok (.iadd, 1) := by decide +kernel
theorem dL_law_688 : decode cL_law 688 = .ok (.iaload, 1) := by decide +kernel
theorem dL_law_689 : decode cL_law 689 = .ok (.invokevirtual 87, 3) := by decide +kernel
theorem dL_law_692 : decode cL_law 692 = .ok (.aload_n 2, 1) := by decide +kernel
theorem dL_law_693 : decode cL_law 693 = .ok (.aload_n 0, 1) := by decide +kernel
theorem dL_law_694 : decode cL_law 694 = .ok (.iload_n 3, 1) := by decide +kernel
theorem dL_law_695 : decode cL_law 695 = .ok (.iconst 1, 1) := by decide +kernel
theorem dL_law_696 : decode cL_law 696 = .ok (.iadd, 1) := by decide +kernel
theorem dL_law_697 : decode cL_law 697 = .ok (.iaload, 1) := by decide +kernel
theorem dL_law_698 : decode cL_law 698 = .ok (.aload_n 0, 1) := by decide +kernel
theorem dL_law_699 : decode cL_law 699 = .ok (.iload_n 3, 1) := by decide +kernel
theorem dL_law_700 : decode cL_law 700 = .ok (.iconst 2, 1) := by decide +kernel
theorem dL_law_701 : decode cL_law 701 = .ok (.iadd, 1) := by decide +kernel
theorem dL_law_702 : decode cL_law 702 = .ok (.iaload, 1) := by decide +kernel
theorem dL_law_703 : decode cL_law 703 = .ok (.aload_n 0, 1) := by decide +kernel
theorem dL_law_704 : decode cL_law 704 = .ok (.iload_n 3, 1) := by decide +kernel
theorem dL_law_705 : decode cL_law 705 = .ok (.iconst 3, 1) := by decide +kernel
theorem dL_law_706 : decode cL_law 706 = .ok (.iadd, 1) := by decide +kernel
theorem dL_law_707 : decode cL_law 707 = .ok (.iaload, 1) := by decide +kernel
theorem dL_law_708 : decode cL_law 708 = .ok (.invokevirtual 90, 3) := by decide +kernel
theorem dL_law_711 : decode cL_law 711 = .ok (.if_icmp .eq 74, 3) := by decide +kernel
theorem dL_law_714 : decode cL_law 714 = .ok (.iconst 0, 1) := by decide +kernel
theorem dL_law_715 : decode cL_law 715 = .ok (.ireturn, 1) := by decide +kernel
theorem dL_law_716 : decode cL_law 716 = .ok (.aload_n 1, 1) := by decide +kernel
theorem dL_law_717 : decode cL_law 717 = .ok (.aload_n 0, 1) := by decide +kernel
theorem dL_law_718 : decode cL_law 718 = .ok (.iload_n 3, 1) := by decide +kernel
theorem dL_law_719 : decode cL_law 719 = .ok (.iconst 1, 1) := by decide +kernel
theorem dL_law_720 : decode cL_law 720 = .ok (.iadd, 1) := by decide +kernel
theorem dL_law_721 : decode cL_law 721 = .ok (.iaload, 1) := by decide +kernel
theorem dL_law_722 : decode cL_law 722 = .ok (.aload_n 0, 1) := by decide +kernel
theorem dL_law_723 : decode cL_law 723 = .ok (.iload_n 3, 1) := by decide +kernel
theorem dL_law_724 : decode cL_law 724 = .ok (.iconst 2, 1) := by decide +kernel
theorem dL_law_725 : decode cL_law 725 = .ok (.iadd, 1) := by decide +kernel
theorem dL_law_726 : decode cL_law 726 = .ok (.iaload, 1) := by decide +kernel
theorem dL_law_727 : decode cL_law 727 = .ok (.invokevirtual 91, 3) := by decide +kernel
theorem dL_law_730 : decode cL_law 730 = .ok (.aload_n 2, 1) := by decide +kernel
theorem dL_law_731 : decode cL_law 731 = .ok (.aload_n 0, 1) := by decide +kernel
theorem dL_law_732 : decode cL_law 732 = .ok (.iload_n 3, 1) := by decide +kernel
theorem dL_law_733 : decode cL_law 733 = .ok (.iconst 1, 1) := by decide +kernel
theorem dL_law_734 : decode cL_law 734 = .ok (.iadd, 1) := by decide +kernel
theorem dL_law_735 : decode cL_law 735 = .ok (.iaload, 1) := by decide +kernel
theorem dL_law_736 : decode cL_law 736 = .ok (.aload_n 0, 1) := by decide +kernel
theorem dL_law_737 : decode cL_law 737 = .ok (.iload_n 3, 1) := by decide +kernel
theorem dL_law_738 : decode cL_law 738 = .ok (.iconst 2, 1) := by decide +kernel
theorem dL_law_739 : decode cL_law 739 = .ok (.iadd, 1) := by decide +kernel
theorem dL_law_740 : decode cL_law 740 = .ok (.iaload, 1) := by decide +kernel
theorem dL_law_741 : decode cL_law 741 = .ok (.invokevirtual 94, 3) := by decide +kernel
theorem dL_law_744 : decode cL_law 744 = .ok (.if_icmp .eq 41, 3) := by decide +kernel
theorem dL_law_747 : decode cL_law 747 = .ok (.iconst 0, 1) := by decide +kernel
theorem dL_law_748 : decode cL_law 748 = .ok (.ireturn, 1) := by decide +kernel
theorem dL_law_749 : decode cL_law 749 = .ok (.aload_n 1, 1) := by decide +kernel
theorem dL_law_750 : decode cL_law 750 = .ok (.aload_n 0, 1) := by decide +kernel
theorem dL_law_751 : decode cL_law 751 = .ok (.iload_n 3, 1) := by decide +kernel
theorem dL_law_752 : decode cL_law 752 = .ok (.iconst 1, 1) := by decide +kernel
theorem dL_law_753 : decode cL_law 753 = .ok (.iadd, 1) := by decide +kernel
theorem dL_law_754 : decode cL_law 754 = .ok (.iaload, 1) := by decide +kernel
theorem dL_law_755 : decode cL_law 755 = .ok (.invokevirtual 95, 3) := by decide +kernel
theorem dL_law_758 : decode cL_law 758 = .ok (.aload_n 2, 1) := by decide +kernel
theorem dL_law_759 : decode cL_law 759 = .ok (.aload_n 0, 1) := by decide +kernel
theorem dL_law_760 : decode cL_law 760 = .ok (.iload_n 3, 1) := by decide +kernel
theorem dL_law_761 : decode cL_law 761 = .ok (.iconst 1, 1) := by decide +kernel
theorem dL_law_762 : decode cL_law 762 = .ok (.iadd, 1) := by decide +kernel
theorem dL_law_763 : decode cL_law 763 = .ok (.iaload, 1) := by decide +kernel
theorem dL_law_764 : decode cL_law 764 = .ok (.invokevirtual 98, 3) := by decide +kernel
theorem dL_law_767 : decode cL_law 767 = .ok (.if_icmp .eq 18, 3) := by decide +kernel
theorem dL_law_770 : decode cL_law 770 = .ok (.iconst 0, 1) := by decide +kernel
theorem dL_law_771 : decode cL_law 771 = .ok (.ireturn, 1) := by decide +kernel
theorem dL_law_772 : decode cL_law 772 = .ok (.aload_n 1, 1) := by decide +kernel
theorem dL_law_773 : decode cL_law 773 = .ok (.invokevirtual 99, 3) := by decide +kernel
theorem dL_law_776 : decode cL_law 776 = .ok (.aload_n 2, 1) := by decide +kernel
theorem dL_law_777 : decode cL_law 777 = .ok (.invokevirtual 102, 3) := by decide +kernel
theorem dL_law_780 : decode cL_law 780 = .ok (.if_icmp .eq 5, 3) := by decide +kernel
theorem dL_law_783 : decode cL_law 783 = .ok (.iconst 0, 1) := by decide +kernel
theorem dL_law_784 : decode cL_law 784 = .ok (.ireturn, 1) := by decide +kernel
theorem dL_law_785 : decode cL_law 785 = .ok (.iinc 3 6, 3) := by decide +kernel
theorem dL_law_788 : decode cL_law 788 = .ok (.goto (-770), 3) := by decide +kernel
theorem dL_law_791 : decode cL_law 791 = .ok (.iconst 1, 1) := by decide +kernel
theorem dL_law_792 : decode cL_law 792 = .ok (.ireturn, 1) := by decide +kernel
theorem dJ9_max_7cf53_0 : decode cJ9_max_7cf53 0 = .ok (.iload_n 0, 1) := by decide +kernel
theorem dJ9_max_7cf53_1 : decode cJ9_max_7cf53 1 = .ok (.iload_n 1, 1) := by decide +kernel
theorem dJ9_max_7cf53_2 : decode cJ9_max_7cf53 2 = .ok (.if_icmp .lt 7, 3) := by decide +kernel
theorem dJ9_max_7cf53_5 : decode cJ9_max_7cf53 5 = .ok (.iload_n 0, 1) := by decide +kernel
theorem dJ9_max_7cf53_6 : decode cJ9_max_7cf53 6 = .ok (.goto 4, 3) := by decide +kernel
theorem dJ9_max_7cf53_9 : decode cJ9_max_7cf53 9 = .ok (.iload_n 1, 1) := by decide +kernel
theorem dJ9_max_7cf53_10 : decode cJ9_max_7cf53 10 = .ok (.ireturn, 1) := by decide +kernel
theorem dJ9_max_f86c9_0 : decode cJ9_max_f86c9 0 = .ok (.lload_n 0, 1) := by decide +kernel
theorem dJ9_max_f86c9_1 : decode cJ9_max_f86c9 1 = .ok (.lload_n 2, 1) := by decide +kernel
theorem dJ9_max_f86c9_2 : decode cJ9_max_f86c9 2 = .ok (.lcmp, 1) := by decide +kernel
theorem dJ9_max_f86c9_3 : decode cJ9_max_f86c9 3 = .ok (.ifCond .lt 7, 3) := by decide +kernel
theorem dJ9_max_f86c9_6 : decode cJ9_max_f86c9 6 = .ok (.lload_n 0, 1) := by decide +kernel
theorem dJ9_max_f86c9_7 : decode cJ9_max_f86c9 7 = .ok (.goto 4, 3) := by decide +kernel
theorem dJ9_max_f86c9_10 : decode cJ9_max_f86c9 10 = .ok (.lload_n 2, 1) := by decide +kernel
theorem dJ9_max_f86c9_11 : decode cJ9_max_f86c9 11 = .ok (.lreturn, 1) := by decide +kernel
theorem dJ9_min_7cf53_0 : decode cJ9_min_7cf53 0 = .ok (.iload_n 0, 1) := by decide +kernel
theorem dJ9_min_7cf53_1 : decode cJ9_min_7cf53 1 = .ok (.iload_n 1, 1) := by decide +kernel
theorem dJ9_min_7cf53_2 : decode cJ9_min_7cf53 2 = .ok (.if_icmp .gt 7, 3) := by decide +kernel
theorem dJ9_min_7cf53_5 : decode cJ9_min_7cf53 5 = .ok (.iload_n 0, 1) := by decide +kernel
theorem dJ9_min_7cf53_6 : decode cJ9_min_7cf53 6 = .ok (.goto 4, 3) := by decide +kernel
theorem dJ9_min_7cf53_9 : decode cJ9_min_7cf53 9 = .ok (.iload_n 1, 1) := by decide +kernel
theorem dJ9_min_7cf53_10 : decode cJ9_min_7cf53 10 = .ok (.ireturn, 1) := by decide +kernel
theorem dJ9_min_f86c9_0 : decode cJ9_min_f86c9 0 = .ok (.lload_n 0, 1) := by decide +kernel
theorem dJ9_min_f86c9_1 : decode cJ9_min_f86c9 1 = .ok (.lload_n 2, 1) := by decide +kernel
theorem dJ9_min_f86c9_2 : decode cJ9_min_f86c9 2 = .ok (.lcmp, 1) := by decide +kernel
theorem dJ9_min_f86c9_3 : decode cJ9_min_f86c9 3 = .ok (.ifCond .gt 7, 3) := by decide +kernel
theorem dJ9_min_f86c9_6 : decode cJ9_min_f86c9 6 = .ok (.lload_n 0, 1) := by decide +kernel
theorem dJ9_min_f86c9_7 : decode cJ9_min_f86c9 7 = .ok (.goto 4, 3) := by decide +kernel
theorem dJ9_min_f86c9_10 : decode cJ9_min_f86c9 10 = .ok (.lload_n 2, 1) := by decide +kernel
theorem dJ9_min_f86c9_11 : decode cJ9_min_f86c9 11 = .ok (.lreturn, 1) := by decide +kernel
theorem dJ0_length_8abf5_0 : decode cJ0_length_8abf5 0 = .ok (.aload_n 0, 1) := by decide +kernel
theorem dJ0_length_8abf5_1 : decode cJ0_length_8abf5 1 = .ok (.getfield 9, 3) := by decide +kernel
theorem dJ0_length_8abf5_4 : decode cJ0_length_8abf5 4 = .ok (.arraylength, 1) := by decide +kernel
theorem dJ0_length_8abf5_5 : decode cJ0_length_8abf5 5 = .ok (.aload_n 0, 1) := by decide +kernel
theorem dJ0_length_8abf5_6 : decode cJ0_length_8abf5 6 = .ok (.invokevirtual 335, 3) := by decide +kernel
theorem dJ0_length_8abf5_9 : decode cJ0_length_8abf5 9 = .ok (.ishr, 1) := by decide +kernel
theorem dJ0_length_8abf5_10 : decode cJ0_length_8abf5 10 = .ok (.ireturn, 1) := by decide +kernel
theorem dJ0_charAt_5068e_0 : decode cJ0_charAt_5068e 0 = .ok (.aload_n 0, 1) := by decide +kernel
theorem dJ0_charAt_5068e_1 : decode cJ0_charAt_5068e 1 = .ok (.invokevirtual 492, 3) := by decide +kernel
theorem dJ0_charAt_5068e_4 : decode cJ0_charAt_5068e 4 = .ok (.ifCond .eq 12, 3) := by decide +kernel
theorem dJ0_charAt_5068e_7 : decode cJ0_charAt_5068e 7 = .ok (.aload_n 0, 1) := by decide +kernel
theorem dJ0_charAt_5068e_8 : decode cJ0_charAt_5068e 8 = .ok (.getfield 9, 3) := by decide +kernel
theorem dJ0_charAt_5068e_11 : decode cJ0_charAt_5068e 11 = .ok (.iload_n 1, 1) := by decide +kernel
theorem dJ0_charAt_5068e_12 : decode cJ0_charAt_5068e 12 = .ok (.invokestatic 495, 3) := by decide +kernel
theorem dJ0_charAt_5068e_15 : decode cJ0_charAt_5068e 15 = .ok (.ireturn, 1) := by decide +kernel
theorem dJ0_charAt_5068e_16 : decode cJ0_charAt_5068e 16 = .ok (.aload_n 0, 1) := by decide +kernel
theorem dJ0_charAt_5068e_17 : decode cJ0_charAt_5068e 17 = .ok (.getfield 9, 3) := by decide +kernel
theorem dJ0_charAt_5068e_20 : decode cJ0_charAt_5068e 20 = .ok (.iload_n 1, 1) := by decide +kernel
theorem dJ0_charAt_5068e_21 : decode cJ0_charAt_5068e 21 = .ok (.invokestatic 498, 3) := by decide +kernel
theorem dJ0_charAt_5068e_24 : decode cJ0_charAt_5068e 24 = .ok (.ireturn, 1) := by decide +kernel
theorem dJ0_coder_7d493_0 : decode cJ0_coder_7d493 0 = .ok (.getstatic 38, 3) := by decide +kernel
theorem dJ0_coder_7d493_3 : decode cJ0_coder_7d493 3 = .ok (.ifCond .eq 10, 3) := by decide +kernel
theorem dJ0_coder_7d493_6 : decode cJ0_coder_7d493 6 = .ok (.aload_n 0, 1) := by decide +kernel
theorem dJ0_coder_7d493_7 : decode cJ0_coder_7d493 7 = .ok (.getfield 15, 3) := by decide +kernel
theorem dJ0_coder_7d493_10 : decode cJ0_coder_7d493 10 = .ok (.goto 4, 3) := by decide +kernel
theorem dJ0_coder_7d493_13 : decode cJ0_coder_7d493 13 = .ok (.iconst 1, 1) := by decide +kernel
theorem dJ0_coder_7d493_14 : decode cJ0_coder_7d493 14 = .ok (.ireturn, 1) := by decide +kernel
theorem dJ0_isLatin1_aae02_0 : decode cJ0_isLatin1_aae02 0 = .ok (.getstatic 38, 3) := by decide +kernel
theorem dJ0_isLatin1_aae02_3 : decode cJ0_isLatin1_aae02 3 = .ok (.ifCond .eq 14, 3) := by decide +kernel
theorem dJ0_isLatin1_aae02_6 : decode cJ0_isLatin1_aae02 6 = .ok (.aload_n 0, 1) := by decide +kernel
theorem dJ0_isLatin1_aae02_7 : decode cJ0_isLatin1_aae02 7 = .ok (.getfield 15, 3) := by decide +kernel
theorem dJ0_isLatin1_aae02_10 : decode cJ0_isLatin1_aae02 10 = .ok (.ifCond .ne 7, 3) := by decide +kernel
theorem dJ0_isLatin1_aae02_13 : decode cJ0_isLatin1_aae02 13 = .ok (.iconst 1, 1) := by decide +kernel
theorem dJ0_isLatin1_aae02_14 : decode cJ0_isLatin1_aae02 14 = .ok (.goto 4, 3) := by decide +kernel
theorem dJ0_isLatin1_aae02_17 : decode cJ0_isLatin1_aae02 17 = .ok (.iconst 0, 1) := by decide +kernel
theorem dJ0_isLatin1_aae02_18 : decode cJ0_isLatin1_aae02 18 = .ok (.ireturn, 1) := by decide +kernel
theorem dJ0_checkIndex_df160_0 : decode cJ0_checkIndex_df160 0 = .ok (.iload_n 0, 1) := by decide +kernel
theorem dJ0_checkIndex_df160_1 : decode cJ0_checkIndex_df160 1 = .ok (.iload_n 1, 1) := by decide +kernel
theorem dJ0_checkIndex_df160_2 : decode cJ0_checkIndex_df160 2 = .ok (.getstatic 1053, 3) := by decide +kernel
theorem dJ0_checkIndex_df160_5 : decode cJ0_checkIndex_df160 5 = .ok (.invokestatic 1059, 3) := by decide +kernel
theorem dJ0_checkIndex_df160_8 : decode cJ0_checkIndex_df160 8 = .ok (.pop, 1) := by decide +kernel
theorem dJ0_checkIndex_df160_9 : decode cJ0_checkIndex_df160 9 = .ok (.return_, 1) := by decide +kernel
theorem dJ1_charAt_3b067_0 : decode cJ1_charAt_3b067 0 = .ok (.iload_n 1, 1) := by decide +kernel
theorem dJ1_charAt_3b067_1 : decode cJ1_charAt_3b067 1 = .ok (.aload_n 0, 1) := by decide +kernel
theorem dJ1_charAt_3b067_2 : decode cJ1_charAt_3b067 2 = .ok (.arraylength, 1) := by decide +kernel
theorem dJ1_charAt_3b067_3 : decode cJ1_charAt_3b067 3 = .ok (.invokestatic 9, 3) := by decide +kernel
theorem dJ1_charAt_3b067_6 : decode cJ1_charAt_3b067 6 = .ok (.aload_n 0, 1) := by decide +kernel
theorem dJ1_charAt_3b067_7 : decode cJ1_charAt_3b067 7 = .ok (.iload_n 1, 1) := by decide +kernel
theorem dJ1_charAt_3b067_8 : decode cJ1_charAt_3b067 8 = .ok (.baload, 1) := by decide +kernel
theorem dJ1_charAt_3b067_9 : decode cJ1_charAt_3b067 9 = .ok (.sipush 255, 3) := by decide +kernel
theorem dJ1_charAt_3b067_12 : decode cJ1_charAt_3b067 12 = .ok (.iand, 1) := by decide +kernel
theorem dJ1_charAt_3b067_13 : decode cJ1_charAt_3b067 13 = .ok (.i2c, 1) := by decide +kernel
theorem dJ1_charAt_3b067_14 : decode cJ1_charAt_3b067 14 = .ok (.ireturn, 1) := by decide +kernel
theorem dJ2_getChar_3b067_0 : decode cJ2_getChar_3b067 0 = .ok (.getstatic 44, 3) := by decide +kernel
theorem dJ2_getChar_3b067_3 : decode cJ2_getChar_3b067 3 = .ok (.ifCond .ne 25, 3) := by decide +kernel
theorem dJ2_getChar_3b067_6 : decode cJ2_getChar_3b067 6 = .ok (.iload_n 1, 1) := by decide +kernel
theorem dJ2_getChar_3b067_7 : decode cJ2_getChar_3b067 7 = .ok (.ifCond .lt 11, 3) := by decide +kernel
theorem dJ2_getChar_3b067_10 : decode cJ2_getChar_3b067 10 = .ok (.iload_n 1, 1) := by decide +kernel
theorem dJ2_getChar_3b067_11 : decode cJ2_getChar_3b067 11 = .ok (.aload_n 0, 1) := by decide +kernel
theorem dJ2_getChar_3b067_12 : decode cJ2_getChar_3b067 12 = .ok (.invokestatic 48, 3) := by decide +kernel
theorem dJ2_getChar_3b067_15 : decode cJ2_getChar_3b067 15 = .ok (.if_icmp .lt 13, 3) := by decide +kernel
theorem dJ2_getChar_3b067_18 : decode cJ2_getChar_3b067 18 = .ok (.new 52, 3) := by decide +kernel
theorem dJ2_getChar_3b067_21 : decode cJ2_getChar_3b067 21 = .ok (.dup, 1) := by decide +kernel
theorem dJ2_getChar_3b067_22 : decode cJ2_getChar_3b067 22 = .ok (.ldc 54, 2) := by decide +kernel
theorem dJ2_getChar_3b067_24 : decode cJ2_getChar_3b067 24 = .ok (.invokespecial 56, 3) := by decide +kernel
theorem dJ2_getChar_3b067_27 : decode cJ2_getChar_3b067 27 = .ok (.athrow, 1) := by decide +kernel
theorem dJ2_getChar_3b067_28 : decode cJ2_getChar_3b067 28 = .ok (.iload_n 1, 1) := by decide +kernel
theorem dJ2_getChar_3b067_29 : decode cJ2_getChar_3b067 29 = .ok (.iconst 1, 1) := by decide +kernel
theorem dJ2_getChar_3b067_30 : decode cJ2_getChar_3b067 30 = .ok (.ishl, 1) := by decide +kernel
theorem dJ2_getChar_3b067_31 : decode cJ2_getChar_3b067 31 = .ok (.istore_n 1, 1) := by decide +kernel
theorem dJ2_getChar_3b067_32 : decode cJ2_getChar_3b067 32 = .ok (.aload_n 0, 1) := by decide +kernel
theorem dJ2_getChar_3b067_33 : decode cJ2_getChar_3b067 33 = .ok (.iload_n 1, 1) := by decide +kernel
theorem dJ2_getChar_3b067_34 : decode cJ2_getChar_3b067 34 = .ok (.iinc 1 1, 3) := by decide +kernel
theorem dJ2_getChar_3b067_37 : decode cJ2_getChar_3b067 37 = .ok (.baload, 1) := by decide +kernel
theorem dJ2_getChar_3b067_38 : decode cJ2_getChar_3b067 38 = .ok (.sipush 255, 3) := by decide +kernel
theorem dJ2_getChar_3b067_41 : decode cJ2_getChar_3b067 41 = .ok (.iand, 1) := by decide +kernel
theorem dJ2_getChar_3b067_42 : decode cJ2_getChar_3b067 42 = .ok (.getstatic 59, 3) := by decide +kernel
theorem dJ2_getChar_3b067_45 : decode cJ2_getChar_3b067 45 = .ok (.ishl, 1) := by decide +kernel
theorem dJ2_getChar_3b067_46 : decode cJ2_getChar_3b067 46 = .ok (.aload_n 0, 1) := by decide +kernel
theorem dJ2_getChar_3b067_47 : decode cJ2_getChar_3b067 47 = .ok (.iload_n 1, 1) := by decide +kernel
theorem dJ2_getChar_3b067_48 : decode cJ2_getChar_3b067 48 = .ok (.baload, 1) := by decide +kernel
theorem dJ2_getChar_3b067_49 : decode cJ2_getChar_3b067 49 = .ok (.sipush 255, 3) := by decide +kernel
theorem dJ2_getChar_3b067_52 : decode cJ2_getChar_3b067 52 = .ok (.iand, 1) := by decide +kernel
theorem dJ2_getChar_3b067_53 : decode cJ2_getChar_3b067 53 = .ok (.getstatic 63, 3) := by decide +kernel
theorem dJ2_getChar_3b067_56 : decode cJ2_getChar_3b067 56 = .ok (.ishl, 1) := by decide +kernel
theorem dJ2_getChar_3b067_57 : decode cJ2_getChar_3b067 57 = .ok (.ior, 1) := by decide +kernel
theorem dJ2_getChar_3b067_58 : decode cJ2_getChar_3b067 58 = .ok (.i2c, 1) := by decide +kernel
theorem dJ2_getChar_3b067_59 : decode cJ2_getChar_3b067 59 = .ok (.ireturn, 1) := by decide +kernel
theorem dJ2_length_9d52b_0 : decode cJ2_length_9d52b 0 = .ok (.aload_n 0, 1) := by decide +kernel
theorem dJ2_length_9d52b_1 : decode cJ2_length_9d52b 1 = .ok (.arraylength, 1) := by decide +kernel
theorem dJ2_length_9d52b_2 : decode cJ2_length_9d52b 2 = .ok (.iconst 1, 1) := by decide +kernel
theorem dJ2_length_9d52b_3 : decode cJ2_length_9d52b 3 = .ok (.ishr, 1) := by decide +kernel
theorem dJ2_length_9d52b_4 : decode cJ2_length_9d52b 4 = .ok (.ireturn, 1) := by decide +kernel
theorem dJ2_charAt_3b067_0 : decode cJ2_charAt_3b067 0 = .ok (.iload_n 1, 1) := by decide +kernel
theorem dJ2_charAt_3b067_1 : decode cJ2_charAt_3b067 1 = .ok (.aload_n 0, 1) := by decide +kernel
theorem dJ2_charAt_3b067_2 : decode cJ2_charAt_3b067 2 = .ok (.invokestatic 67, 3) := by decide +kernel
theorem dJ2_charAt_3b067_5 : decode cJ2_charAt_3b067 5 = .ok (.aload_n 0, 1) := by decide +kernel
theorem dJ2_charAt_3b067_6 : decode cJ2_charAt_3b067 6 = .ok (.iload_n 1, 1) := by decide +kernel
theorem dJ2_charAt_3b067_7 : decode cJ2_charAt_3b067 7 = .ok (.invokestatic 71, 3) := by decide +kernel
theorem dJ2_charAt_3b067_10 : decode cJ2_charAt_3b067 10 = .ok (.ireturn, 1) := by decide +kernel
theorem dJ2_checkIndex_2214a_0 : decode cJ2_checkIndex_2214a 0 = .ok (.iload_n 0, 1) := by decide +kernel
theorem dJ2_checkIndex_2214a_1 : decode cJ2_checkIndex_2214a 1 = .ok (.aload_n 1, 1) := by decide +kernel
theorem dJ2_checkIndex_2214a_2 : decode cJ2_checkIndex_2214a 2 = .ok (.invokestatic 48, 3) := by decide +kernel
theorem dJ2_checkIndex_2214a_5 : decode cJ2_checkIndex_2214a 5 = .ok (.invokestatic 414, 3) := by decide +kernel
theorem dJ2_checkIndex_2214a_8 : decode cJ2_checkIndex_2214a 8 = .ok (.return_, 1) := by decide +kernel
theorem dJ3_checkIndex_8e157_0 : decode cJ3_checkIndex_8e157 0 = .ok (.iload_n 0, 1) := by decide +kernel
theorem dJ3_checkIndex_8e157_1 : decode cJ3_checkIndex_8e157 1 = .ok (.ifCond .lt 8, 3) := by decide +kernel
theorem dJ3_checkIndex_8e157_4 : decode cJ3_checkIndex_8e157 4 = .ok (.iload_n 0, 1) := by decide +kernel
theorem dJ3_checkIndex_8e157_5 : decode cJ3_checkIndex_8e157 5 = .ok (.iload_n 1, 1) := by decide +kernel
theorem dJ3_checkIndex_8e157_6 : decode cJ3_checkIndex_8e157 6 = .ok (.if_icmp .lt 10, 3) := by decide +kernel
theorem dJ3_checkIndex_8e157_9 : decode cJ3_checkIndex_8e157 9 = .ok (.aload_n 2, 1) := by decide +kernel
theorem dJ3_checkIndex_8e157_10 : decode cJ3_checkIndex_8e157 10 = .ok (.iload_n 0, 1) := by decide +kernel
theorem dJ3_checkIndex_8e157_11 : decode cJ3_checkIndex_8e157 11 = .ok (.iload_n 1, 1) := by decide +kernel
theorem dJ3_checkIndex_8e157_12 : decode cJ3_checkIndex_8e157 12 = .ok (.invokestatic 95, 3) := by decide +kernel
theorem dJ3_checkIndex_8e157_15 : decode cJ3_checkIndex_8e157 15 = .ok (.athrow, 1) := by decide +kernel
theorem dJ3_checkIndex_8e157_16 : decode cJ3_checkIndex_8e157 16 = .ok (.iload_n 0, 1) := by decide +kernel
theorem dJ3_checkIndex_8e157_17 : decode cJ3_checkIndex_8e157 17 = .ok (.ireturn, 1) := by decide +kernel
end
section
/-! the typed heap picture: kinds, ints, longs, references by address and place -/
def wAll : List Cond := lw_tbl.filter goodWord
theorem wm {w : Cond} (h : w ∈ lw_tbl) (g : goodWord w = true) : w ∈ wAll := List.mem_filter.mpr ⟨h, g⟩
theorem wgood : ∀ w ∈ wAll, (w.onTables && w.keeps) = true ∨ ∃ ty, w = .arrayClass ty := fun w h => good_of_word (List.mem_filter.mp h).2
abbrev Hp : Type := (Nat → Option (Nat × Nat)) × (Nat → Nat → Int32) × (Nat → Nat → Int64) × (Nat → Nat → Option Nat)
def gk (σ : Hp) (a : Nat) : Option (Nat × Nat) := σ.1 a
def gi (σ : Hp) (a k : Nat) : Int32 := σ.2.1 a k
def gl (σ : Hp) (a k : Nat) : Int64 := σ.2.2.1 a k
def gr (σ : Hp) (a k : Nat) : Option Nat := σ.2.2.2 a k
def up2 {α : Type} (f : Nat → Nat → α) (a k : Nat) (v : α) : Nat → Nat → α := fun b j => if b = a ∧ j = k then v else f b j
def si (σ : Hp) (a k : Nat) (v : Int32) : Hp := (σ.1, up2 σ.2.1 a k v, σ.2.2.1, σ.2.2.2)
def sl (σ : Hp) (a k : Nat) (v : Int64) : Hp := (σ.1, σ.2.1, up2 σ.2.2.1 a k v, σ.2.2.2)
def sr (σ : Hp) (a k : Nat) (v : Option Nat) : Hp := (σ.1, σ.2.1, σ.2.2.1, up2 σ.2.2.2 a k v)
def nw (σ : Hp) (q t n : Nat) : Hp := (va_up σ.1 q (some (t, n)), va_up σ.2.1 q (fun _ => 0), va_up σ.2.2.1 q (fun _ => 0), va_up σ.2.2.2 q (fun _ => none))
theorem up2_eq {α : Type} (f : Nat → Nat → α) (a k : Nat) (v : α) (b j : Nat) : up2 f a k v b j = if b = a ∧ j = k then v else f b j := rfl
theorem gk_si (σ : Hp) (a k : Nat) (v : Int32) (b : Nat) : gk (si σ a k v) b = gk σ b := rfl
theorem gk_sl (σ : Hp) (a k : Nat) (v : Int64) (b : Nat) : gk (sl σ a k v) b = gk σ b := rfl
theorem gk_sr (σ : Hp) (a k : Nat) (v : Option Nat) (b : Nat) : gk (sr σ a k v) b = gk σ b := rfl
theorem gi_si (σ : Hp) (a k : Nat) (v : Int32) (b j : Nat) : gi (si σ a k v) b j = if b = a ∧ j = k then v else gi σ b j := rfl
theorem gi_sl (σ : Hp) (a k : Nat) (v : Int64) (b j : Nat) : gi (sl σ a k v) b j = gi σ b j := rfl
theorem gi_sr (σ : Hp) (a k : Nat) (v : Option Nat) (b j : Nat) : gi (sr σ a k v) b j = gi σ b j := rfl
theorem gl_si (σ : Hp) (a k : Nat) (v : Int32) (b j : Nat) : gl (si σ a k v) b j = gl σ b j := rfl
theorem gl_sl (σ : Hp) (a k : Nat) (v : Int64) (b j : Nat) : gl (sl σ a k v) b j = if b = a ∧ j = k then v else gl σ b j := rfl
theorem gl_sr (σ : Hp) (a k : Nat) (v : Option Nat) (b j : Nat) : gl (sr σ a k v) b j = gl σ b j := rfl
theorem gr_si (σ : Hp) (a k : Nat) (v : Int32) (b j : Nat) : gr (si σ a k v) b j = gr σ b j := rfl
theorem gr_sl (σ : Hp) (a k : Nat) (v : Int64) (b j : Nat) : gr (sl σ a k v) b j = gr σ b j := rfl
theorem gr_sr (σ : Hp) (a k : Nat) (v : Option Nat) (b j : Nat) : gr (sr σ a k v) b j = if b = a ∧ j = k then v else gr σ b j := rfl
theorem gk_nw (σ : Hp) (q t n b : Nat) : gk (nw σ q t n) b = if b = q then some (t, n) else gk σ b := rfl
theorem gi_nw (σ : Hp) (q t n b j : Nat) : gi (nw σ q t n) b j = if b = q then 0 else gi σ b j := by
  show va_up σ.2.1 q (fun _ => 0) b j = _
  unfold va_up
  split <;> rfl
theorem gl_nw (σ : Hp) (q t n b j : Nat) : gl (nw σ q t n) b j = if b = q then 0 else gl σ b j := by
  show va_up σ.2.2.1 q (fun _ => 0) b j = _
  unfold va_up
  split <;> rfl
theorem gr_nw (σ : Hp) (q t n b j : Nat) : gr (nw σ q t n) b j = if b = q then none else gr σ b j := by
  show va_up σ.2.2.2 q (fun _ => none) b j = _
  unfold va_up
  split <;> rfl
/-- field kinds by class: 0 int or boolean, 1 long, 2 reference -/
def ftab : List (List Nat) := [[2, 0], [2, 0, 1], [2, 2, 0, 0], [0, 2], [0, 0, 0, 0, 0, 0], [2, 0], [2, 2, 2, 2, 2, 0, 0], [2, 0], [2, 2, 2, 2, 2, 0, 0, 0, 0, 2, 2, 2, 2], [0, 0, 0, 2, 2, 2, 2, 2, 2, 0, 2, 2, 2, 2, 0, 2, 2, 2, 2, 2, 2, 0, 0, 2, 2, 2, 2, 2, 2, 2, 2, 0, 2, 0, 0, 0, 0, 1, 0, 0, 0, 2, 2, 2, 2, 2, 2, 0, 0, 2, 2, 2, 2, 0, 2]]
def fty (t k : Nat) : Nat := (ftab.getD t []).getD k 0
def ncl (t : Nat) : Nat := (ftab.getD t []).length
def fv (σ : Hp) (t a k : Nat) : Value := match fty t k with
  | 0 => .int (gi σ a k)
  | 1 => .long (gl σ a k)
  | _ => va_rf (gr σ a k)
/-- the classes' numbers and slots, the arrays' classes, the String constants' places -/
abbrev GG : Type := va_G × (Nat → ClassId) × (Nat → Nat) × (Nat → Nat)
def cE (G : GG) (σ : Hp) (a : Nat) (u : Nat × Nat) : va_E :=
  if u.1 < 10 then .inr (u.1, (List.range (ncl u.1)).map (fv σ u.1 a))
  else if u.1 < 12 then .inl (G.2.1 u.1, u.2, .inl (gi σ a))
  else .inl (G.2.1 u.1, u.2, .inr (.inr (.inr (.inr (gr σ a)))))
def cF (G : GG) (σ : Hp) (a : Nat) : va_E := cE G σ a ((gk σ a).getD (0, 0))
def tysG (G : GG) : List (ClassId × FieldType) := [(G.2.1 10, .int), (G.2.1 11, .boolean), (G.2.1 12, .object "PaperRows$Reader"), (G.2.1 13, .object "PaperRows$Row")]
def AN (N0 : Nat) : Nat → Prop := fun q => N0 ≤ q
def HP (G : GG) (N0 : Nat) (σ : Hp) (H : Heap) : Prop := ∃ L : List Nat, (∀ a : Nat, gk σ a ≠ none ↔ a ∈ L) ∧ va_P G.1 vwCl (va_pl L (cF G σ)) H ∧ va_D (AN N0) (va_pl L (cF G σ))
/-! the world that stays: classes, nest mates, String constants, statics -/
def nestW : List (String × Nat × MethodName × String) := [(RX8, 11, yX5_init, RX8), (RX8, 18, yX0_init, RX8), (RX8, 25, yX7_init, RX8), (RX8, 38, yX6_init, RX8), (RX8, 64, yX1_init, RX8), (RX1, 27, yX8_isValue, RX8), (RX3, 9, yX1_init, RX8)]
def strL : List Nat := [1, 2, 4]
def strB : List (List Int32) := [[118], [117, 112], [100, 111, 119, 110]]
def SE (G : GG) (N0 : Nat) (U : State) : Prop := (vk_R RX2 64 "v" (G.2.2.1 0) U ∧ vk_R RX2 74 "up" (G.2.2.1 1) U ∧ vk_R RX2 76 "down" (G.2.2.1 2) U) ∧ vk_S 3 strL strB G.2.2.1 G.2.2.2 (AN N0) U U.heap ∧ va_Z "java/lang/String" "COMPACT_STRINGS" "Z" (.int 1) (AN N0) U U.heap ∧ va_Zq "jdk/internal/util/Preconditions" "SIOOBE_FORMATTER" "Ljava/util/function/BiFunction;" (AN N0) U U.heap
def GE (G : GG) (N0 : Nat) (U : State) : Prop := va_K G.1 vwCl (tysG G) U ∧ (∀ w ∈ nestW, va_Nw (.methodLinkNest w.1 w.2.1 w.2.2.1 w.2.2.2) U) ∧ (va_AO "PaperRows$Row" U ∧ va_AO "PaperRows$Reader" U) ∧ SE G N0 U
theorem GE.step {G : GG} {N0 : Nat} {s U : State} (h : GE G N0 s) (hW : s.WarmedH U.vm) (hq : ∀ a : Nat, a < s.heap.size → ¬ AN N0 a → U.heap[a]? = s.heap[a]?) : GE G N0 U := by
  obtain ⟨h1, h2, ⟨h3, h4⟩, ⟨h5, h6, h7⟩, h8, h9, h10⟩ := h
  exact ⟨va_K.moved hW.alike h1, fun w hw => va_Nw.warmM hW (h2 w hw), ⟨h3.moved hW.alike, h4.moved hW.alike⟩, ⟨h5.warm hW, h6.warm hW, h7.warm hW⟩, (h8.moved hW.alike).kept hq, (va_Z.moved hW.alike h9).kept hq, (h10.moved hW.alike).kept hq⟩
theorem GE.same {G : GG} {N0 : Nat} {u U : State} (hv : u.vm = U.vm) (hh : U.heap = u.heap) (h : GE G N0 u) : GE G N0 U := by
  obtain ⟨h1, h2, ⟨h3, h4⟩, ⟨h5, h6, h7⟩, h8, h9, h10⟩ := h
  have hA : u.vm.Alike U.vm := by rw [hv]; exact Vm.Alike.refl U.vm
  refine ⟨va_K.moved hA h1, fun w hw => va_Nw.same rfl hv (h2 w hw), ⟨h3.moved hA, h4.moved hA⟩, ⟨h5.same hv.symm, h6.same hv.symm, h7.same hv.symm⟩, ?_, ?_, ?_⟩
  · rw [hh]; exact h8.moved hA
  · rw [hh]; exact va_Z.moved hA h9
  · rw [hh]; exact h10.moved hA
section SEM
variable {p : Program} {l : Launch} {e : Env} {R : Room} {s : State} {m : MethodId} {args : Array Value} {below : List Frame} {meth : Method} {c : Code} {Q : State → Prop} {G : GG} {N0 : Nat} {own : String} {cc : ByteArray} {nL : Nat}
/-- what is fixed while a method runs -/
def EX (p : Program) (s : State) (m : MethodId) (args : Array Value) (meth : Method) (c : Code) (G : GG) (N0 : Nat) (own : String) (cc : ByteArray) (nL : Nat) : Prop :=
  p.tables.exec = Jvm.exec ∧ c.code = cc ∧ c.maxLocals = nL ∧ s.vm.findClass own = some m.cls ∧ (∀ w ∈ wAll, w.before args s = true) ∧ meth.locks = false ∧ GE G N0 s ∧ N0 ≤ s.heap.size
/-- the frame at pc, over the heap picture, comes to Q -/
def V (p : Program) (l : Launch) (e : Env) (R : Room) (s : State) (m : MethodId) (args : Array Value) (below : List Frame) (meth : Method) (c : Code) (Q : State → Prop) (G : GG) (N0 nL : Nat) (σ : Hp) (cu su pc : Nat) (lv : List (Nat × Value)) (st : List Value) : Prop :=
  ∀ (H : Heap) (locs : List Loc) (ls : Array Slot), HP G N0 σ H → va_S (AN N0) s.heap H locs → lv_has ls nL lv → W p l e R s m args below meth c H locs cu su Q (F0 m pc ls st)
variable {σ : Hp} {cu su pc : Nat} {lv lv' : List (Nat × Value)} {st : List Value}

theorem V.to {st2 : List Value} {lv2 : List (Nat × Value)} (ps : List Nat) (hl : lv_pick lv ps = lv2) (hs : st = st2) (k : V p l e R s m args below meth c Q G N0 nL σ cu su pc lv2 st2) : V p l e R s m args below meth c Q G N0 nL σ cu su pc lv st := by
  subst hs
  exact fun H locs ls hH hS hL => k H locs ls hH hS (lv_sub hL ps hl)
theorem V.widen {cu2 su2 : Nat} (h1 : cu ≤ cu2) (h2 : su ≤ su2) (k : V p l e R s m args below meth c Q G N0 nL σ cu2 su2 pc lv st) : V p l e R s m args below meth c Q G N0 nL σ cu su pc lv st := fun H locs ls hH hS hL => W.widen h1 h2 (k H locs ls hH hS hL)
theorem V_iconst (X : EX p s m args meth c G N0 own cc nL) {n : Int} {v : Int32} (hd : decode cc pc = .ok (.iconst n, 1)) (hv : Int32.ofInt n = v) (k : V p l e R s m args below meth c Q G N0 nL σ cu su (pc + 1) lv (.int v :: st)) : V p l e R s m args below meth c Q G N0 nL σ cu su pc lv (st) := fun H locs ls hH hS hL => lv_iconst X.1 X.2.1 hd hv (k H locs ls hH hS hL)
theorem V_bipush (X : EX p s m args meth c G N0 own cc nL) {n : Int} {v : Int32} (hd : decode cc pc = .ok (.bipush n, 2)) (hv : (Int8.ofInt n).toInt32 = v) (k : V p l e R s m args below meth c Q G N0 nL σ cu su (pc + 2) lv (.int v :: st)) : V p l e R s m args below meth c Q G N0 nL σ cu su pc lv (st) := fun H locs ls hH hS hL => lv_bipush X.1 X.2.1 hd hv (k H locs ls hH hS hL)
theorem V_sipush (X : EX p s m args meth c G N0 own cc nL) {n : Int} {v : Int32} (hd : decode cc pc = .ok (.sipush n, 3)) (hv : (Int16.ofInt n).toInt32 = v) (k : V p l e R s m args below meth c Q G N0 nL σ cu su (pc + 3) lv (.int v :: st)) : V p l e R s m args below meth c Q G N0 nL σ cu su pc lv (st) := fun H locs ls hH hS hL => lv_sipush X.1 X.2.1 hd hv (k H locs ls hH hS hL)
theorem V_lconst (X : EX p s m args meth c G N0 own cc nL) {n : Fin 2} {v : Int64} (hd : decode cc pc = .ok (.lconst n, 1)) (hv : Int64.ofNat (n : Nat) = v) (k : V p l e R s m args below meth c Q G N0 nL σ cu su (pc + 1) lv (.long v :: st)) : V p l e R s m args below meth c Q G N0 nL σ cu su pc lv (st) := fun H locs ls hH hS hL => lv_lconst X.1 X.2.1 hd hv (k H locs ls hH hS hL)
theorem V_ldc2 (X : EX p s m args meth c G N0 own cc nL) {index : Nat} {v : Int64} (hd : decode cc pc = .ok (.ldc2_w index, 3)) (hw : Cond.constantLong own index v ∈ wAll) (k : V p l e R s m args below meth c Q G N0 nL σ cu su (pc + 3) lv (.long v :: st)) : V p l e R s m args below meth c Q G N0 nL σ cu su pc lv (st) := fun H locs ls hH hS hL => lv_ldc2 X.1 X.2.1 X.2.2.2.1 (X.2.2.2.2.1 _ hw) hd (k H locs ls hH hS hL)
theorem V_null (X : EX p s m args meth c G N0 own cc nL)  (hd : decode cc pc = .ok (.aconst_null, 1)) (k : V p l e R s m args below meth c Q G N0 nL σ cu su (pc + 1) lv (.null :: st)) : V p l e R s m args below meth c Q G N0 nL σ cu su pc lv (st) := fun H locs ls hH hS hL => lv_null X.1 X.2.1 hd (k H locs ls hH hS hL)
theorem V_iload_n (X : EX p s m args meth c G N0 own cc nL) {k4 : Fin 4} {i : Nat} {x : Int32} (hd : decode cc pc = .ok (.iload_n k4, 1)) (hi : (k4 : Nat) = i) (j : Nat) (hj : lv[j]? = some (i, .int x)) (k : V p l e R s m args below meth c Q G N0 nL σ cu su (pc + 1) lv (.int x :: st)) : V p l e R s m args below meth c Q G N0 nL σ cu su pc lv (st) := fun H locs ls hH hS hL => lv_iload_n X.1 X.2.1 hd hi (lv_at hL j hj) (k H locs ls hH hS hL)
theorem V_iload (X : EX p s m args meth c G N0 own cc nL) {i : Nat} {x : Int32} (hd : decode cc pc = .ok (.iload i, 2)) (j : Nat) (hj : lv[j]? = some (i, .int x)) (k : V p l e R s m args below meth c Q G N0 nL σ cu su (pc + 2) lv (.int x :: st)) : V p l e R s m args below meth c Q G N0 nL σ cu su pc lv (st) := fun H locs ls hH hS hL => lv_iload X.1 X.2.1 hd (lv_at hL j hj) (k H locs ls hH hS hL)
theorem V_lload_n (X : EX p s m args meth c G N0 own cc nL) {k4 : Fin 4} {i : Nat} {x : Int64} (hd : decode cc pc = .ok (.lload_n k4, 1)) (hi : (k4 : Nat) = i) (j : Nat) (hj : lv[j]? = some (i, .long x)) (k : V p l e R s m args below meth c Q G N0 nL σ cu su (pc + 1) lv (.long x :: st)) : V p l e R s m args below meth c Q G N0 nL σ cu su pc lv (st) := fun H locs ls hH hS hL => lv_lload_n X.1 X.2.1 hd hi (lv_at hL j hj) (k H locs ls hH hS hL)
theorem V_lload (X : EX p s m args meth c G N0 own cc nL) {i : Nat} {x : Int64} (hd : decode cc pc = .ok (.lload i, 2)) (j : Nat) (hj : lv[j]? = some (i, .long x)) (k : V p l e R s m args below meth c Q G N0 nL σ cu su (pc + 2) lv (.long x :: st)) : V p l e R s m args below meth c Q G N0 nL σ cu su pc lv (st) := fun H locs ls hH hS hL => lv_lload X.1 X.2.1 hd (lv_at hL j hj) (k H locs ls hH hS hL)
theorem V_aload_n (X : EX p s m args meth c G N0 own cc nL) {k4 : Fin 4} {i : Nat} {x : Nat} (hd : decode cc pc = .ok (.aload_n k4, 1)) (hi : (k4 : Nat) = i) (j : Nat) (hj : lv[j]? = some (i, .ref x)) (k : V p l e R s m args below meth c Q G N0 nL σ cu su (pc + 1) lv (.ref x :: st)) : V p l e R s m args below meth c Q G N0 nL σ cu su pc lv (st) := fun H locs ls hH hS hL => lv_aload_n X.1 X.2.1 hd hi (lv_at hL j hj) (k H locs ls hH hS hL)
theorem V_aload (X : EX p s m args meth c G N0 own cc nL) {i : Nat} {x : Nat} (hd : decode cc pc = .ok (.aload i, 2)) (j : Nat) (hj : lv[j]? = some (i, .ref x)) (k : V p l e R s m args below meth c Q G N0 nL σ cu su (pc + 2) lv (.ref x :: st)) : V p l e R s m args below meth c Q G N0 nL σ cu su pc lv (st) := fun H locs ls hH hS hL => lv_aload X.1 X.2.1 hd (lv_at hL j hj) (k H locs ls hH hS hL)
theorem V_aload_nN (X : EX p s m args meth c G N0 own cc nL) {k4 : Fin 4} {i : Nat} (hd : decode cc pc = .ok (.aload_n k4, 1)) (hi : (k4 : Nat) = i) (j : Nat) (hj : lv[j]? = some (i, .null)) (k : V p l e R s m args below meth c Q G N0 nL σ cu su (pc + 1) lv (.null :: st)) : V p l e R s m args below meth c Q G N0 nL σ cu su pc lv (st) := fun H locs ls hH hS hL => lv_aload_nN X.1 X.2.1 hd hi (lv_at hL j hj) (k H locs ls hH hS hL)
theorem V_aloadN (X : EX p s m args meth c G N0 own cc nL) {i : Nat} (hd : decode cc pc = .ok (.aload i, 2)) (j : Nat) (hj : lv[j]? = some (i, .null)) (k : V p l e R s m args below meth c Q G N0 nL σ cu su (pc + 2) lv (.null :: st)) : V p l e R s m args below meth c Q G N0 nL σ cu su pc lv (st) := fun H locs ls hH hS hL => lv_aloadN X.1 X.2.1 hd (lv_at hL j hj) (k H locs ls hH hS hL)
theorem V_aload_nr (X : EX p s m args meth c G N0 own cc nL) {k4 : Fin 4} {i : Nat} {x : Option Nat} (hd : decode cc pc = .ok (.aload_n k4, 1)) (hi : (k4 : Nat) = i) (j : Nat) (hj : lv[j]? = some (i, va_rf x)) (k : V p l e R s m args below meth c Q G N0 nL σ cu su (pc + 1) lv (va_rf x :: st)) : V p l e R s m args below meth c Q G N0 nL σ cu su pc lv (st) := fun H locs ls hH hS hL => by
  cases x with
  | none => exact lv_aload_nN X.1 X.2.1 hd hi (lv_at hL j hj) (k H locs ls hH hS hL)
  | some x => exact lv_aload_n X.1 X.2.1 hd hi (lv_at hL j hj) (k H locs ls hH hS hL)
theorem V_aloadr (X : EX p s m args meth c G N0 own cc nL) {i : Nat} {x : Option Nat} (hd : decode cc pc = .ok (.aload i, 2)) (j : Nat) (hj : lv[j]? = some (i, va_rf x)) (k : V p l e R s m args below meth c Q G N0 nL σ cu su (pc + 2) lv (va_rf x :: st)) : V p l e R s m args below meth c Q G N0 nL σ cu su pc lv (st) := fun H locs ls hH hS hL => by
  cases x with
  | none => exact lv_aloadN X.1 X.2.1 hd (lv_at hL j hj) (k H locs ls hH hS hL)
  | some x => exact lv_aload X.1 X.2.1 hd (lv_at hL j hj) (k H locs ls hH hS hL)
theorem V_istore_n (X : EX p s m args meth c G N0 own cc nL) {k4 : Fin 4} {i : Nat} {x : Int32} (hd : decode cc pc = .ok (.istore_n k4, 1)) (hi : (k4 : Nat) = i) (hn : i < nL) (hl : (i, Value.int x) :: lv.filter (fun q => !(q.1 == i) && !(q.1 + 1 == i && q.2.category == 2)) = lv') (k : V p l e R s m args below meth c Q G N0 nL σ cu su (pc + 1) lv' (st)) : V p l e R s m args below meth c Q G N0 nL σ cu su pc lv (.int x :: st) := fun H locs ls hH hS hL => lv_istore_n X.1 X.2.1 hd hi hL hn hl (fun ls hL => k H locs ls hH hS hL)
theorem V_istore (X : EX p s m args meth c G N0 own cc nL) {i : Nat} {x : Int32} (hd : decode cc pc = .ok (.istore i, 2)) (hn : i < nL) (hl : (i, Value.int x) :: lv.filter (fun q => !(q.1 == i) && !(q.1 + 1 == i && q.2.category == 2)) = lv') (k : V p l e R s m args below meth c Q G N0 nL σ cu su (pc + 2) lv' (st)) : V p l e R s m args below meth c Q G N0 nL σ cu su pc lv (.int x :: st) := fun H locs ls hH hS hL => lv_istore X.1 X.2.1 hd hL hn hl (fun ls hL => k H locs ls hH hS hL)
theorem V_lstore_n (X : EX p s m args meth c G N0 own cc nL) {k4 : Fin 4} {i : Nat} {x : Int64} (hd : decode cc pc = .ok (.lstore_n k4, 1)) (hi : (k4 : Nat) = i) (hn : i + 1 < nL) (hl : (i, Value.long x) :: lv.filter (fun q => !(q.1 == i) && (!(q.1 == i + 1) && !(q.1 + 1 == i && q.2.category == 2))) = lv') (k : V p l e R s m args below meth c Q G N0 nL σ cu su (pc + 1) lv' (st)) : V p l e R s m args below meth c Q G N0 nL σ cu su pc lv (.long x :: st) := fun H locs ls hH hS hL => lv_lstore_n X.1 X.2.1 hd hi hL hn hl (fun ls hL => k H locs ls hH hS hL)
theorem V_lstore (X : EX p s m args meth c G N0 own cc nL) {i : Nat} {x : Int64} (hd : decode cc pc = .ok (.lstore i, 2)) (hn : i + 1 < nL) (hl : (i, Value.long x) :: lv.filter (fun q => !(q.1 == i) && (!(q.1 == i + 1) && !(q.1 + 1 == i && q.2.category == 2))) = lv') (k : V p l e R s m args below meth c Q G N0 nL σ cu su (pc + 2) lv' (st)) : V p l e R s m args below meth c Q G N0 nL σ cu su pc lv (.long x :: st) := fun H locs ls hH hS hL => lv_lstore X.1 X.2.1 hd hL hn hl (fun ls hL => k H locs ls hH hS hL)
theorem V_astore_n (X : EX p s m args meth c G N0 own cc nL) {k4 : Fin 4} {i : Nat} {x : Nat} (hd : decode cc pc = .ok (.astore_n k4, 1)) (hi : (k4 : Nat) = i) (hn : i < nL) (hl : (i, Value.ref x) :: lv.filter (fun q => !(q.1 == i) && !(q.1 + 1 == i && q.2.category == 2)) = lv') (k : V p l e R s m args below meth c Q G N0 nL σ cu su (pc + 1) lv' (st)) : V p l e R s m args below meth c Q G N0 nL σ cu su pc lv (.ref x :: st) := fun H locs ls hH hS hL => lv_astore_n X.1 X.2.1 hd hi hL hn hl (fun ls hL => k H locs ls hH hS hL)
theorem V_astore (X : EX p s m args meth c G N0 own cc nL) {i : Nat} {x : Nat} (hd : decode cc pc = .ok (.astore i, 2)) (hn : i < nL) (hl : (i, Value.ref x) :: lv.filter (fun q => !(q.1 == i) && !(q.1 + 1 == i && q.2.category == 2)) = lv') (k : V p l e R s m args below meth c Q G N0 nL σ cu su (pc + 2) lv' (st)) : V p l e R s m args below meth c Q G N0 nL σ cu su pc lv (.ref x :: st) := fun H locs ls hH hS hL => lv_astore X.1 X.2.1 hd hL hn hl (fun ls hL => k H locs ls hH hS hL)
theorem V_astore_nr (X : EX p s m args meth c G N0 own cc nL) {k4 : Fin 4} {i : Nat} {x : Option Nat} (hd : decode cc pc = .ok (.astore_n k4, 1)) (hi : (k4 : Nat) = i) (hn : i < nL) (hl : (i, va_rf x) :: lv.filter (fun q => !(q.1 == i) && !(q.1 + 1 == i && q.2.category == 2)) = lv') (k : V p l e R s m args below meth c Q G N0 nL σ cu su (pc + 1) lv' (st)) : V p l e R s m args below meth c Q G N0 nL σ cu su pc lv (va_rf x :: st) := fun H locs ls hH hS hL => by
  cases x with
  | none => exact lv_astore_nN X.1 X.2.1 hd hi hL hn hl (fun ls hL => k H locs ls hH hS hL)
  | some x => exact lv_astore_n X.1 X.2.1 hd hi hL hn hl (fun ls hL => k H locs ls hH hS hL)
theorem V_astorer (X : EX p s m args meth c G N0 own cc nL) {i : Nat} {x : Option Nat} (hd : decode cc pc = .ok (.astore i, 2)) (hn : i < nL) (hl : (i, va_rf x) :: lv.filter (fun q => !(q.1 == i) && !(q.1 + 1 == i && q.2.category == 2)) = lv') (k : V p l e R s m args below meth c Q G N0 nL σ cu su (pc + 2) lv' (st)) : V p l e R s m args below meth c Q G N0 nL σ cu su pc lv (va_rf x :: st) := fun H locs ls hH hS hL => by
  cases x with
  | none => exact lv_astoreN X.1 X.2.1 hd hL hn hl (fun ls hL => k H locs ls hH hS hL)
  | some x => exact lv_astore X.1 X.2.1 hd hL hn hl (fun ls hL => k H locs ls hH hS hL)
theorem V_iinc (X : EX p s m args meth c G N0 own cc nL) {i : Nat} {n : Int} {x v : Int32} (hd : decode cc pc = .ok (.iinc i n, 3)) (j : Nat) (hj : lv[j]? = some (i, .int x)) (hv : x + Int32.ofInt n = v) (hn : i < nL) (hl : (i, Value.int v) :: lv.filter (fun q => !(q.1 == i) && !(q.1 + 1 == i && q.2.category == 2)) = lv') (k : V p l e R s m args below meth c Q G N0 nL σ cu su (pc + 3) lv' (st)) : V p l e R s m args below meth c Q G N0 nL σ cu su pc lv (st) := fun H locs ls hH hS hL => lv_iinc X.1 X.2.1 hd hL hj hv hn hl (fun ls hL => k H locs ls hH hS hL)
theorem V_iadd (X : EX p s m args meth c G N0 own cc nL) {x y : Int32} (hd : decode cc pc = .ok (.iadd, 1)) (k : V p l e R s m args below meth c Q G N0 nL σ cu su (pc + 1) lv (.int (x + y) :: st)) : V p l e R s m args below meth c Q G N0 nL σ cu su pc lv (.int y :: .int x :: st) := fun H locs ls hH hS hL => lv_iadd X.1 X.2.1 hd (k H locs ls hH hS hL)
theorem V_isub (X : EX p s m args meth c G N0 own cc nL) {x y : Int32} (hd : decode cc pc = .ok (.isub, 1)) (k : V p l e R s m args below meth c Q G N0 nL σ cu su (pc + 1) lv (.int (x - y) :: st)) : V p l e R s m args below meth c Q G N0 nL σ cu su pc lv (.int y :: .int x :: st) := fun H locs ls hH hS hL => lv_isub X.1 X.2.1 hd (k H locs ls hH hS hL)
theorem V_imul (X : EX p s m args meth c G N0 own cc nL) {x y : Int32} (hd : decode cc pc = .ok (.imul, 1)) (k : V p l e R s m args below meth c Q G N0 nL σ cu su (pc + 1) lv (.int (x * y) :: st)) : V p l e R s m args below meth c Q G N0 nL σ cu su pc lv (.int y :: .int x :: st) := fun H locs ls hH hS hL => lv_imul X.1 X.2.1 hd (k H locs ls hH hS hL)
theorem V_iand (X : EX p s m args meth c G N0 own cc nL) {x y : Int32} (hd : decode cc pc = .ok (.iand, 1)) (k : V p l e R s m args below meth c Q G N0 nL σ cu su (pc + 1) lv (.int (x &&& y) :: st)) : V p l e R s m args below meth c Q G N0 nL σ cu su pc lv (.int y :: .int x :: st) := fun H locs ls hH hS hL => lv_iand X.1 X.2.1 hd (k H locs ls hH hS hL)
theorem V_ior (X : EX p s m args meth c G N0 own cc nL) {x y : Int32} (hd : decode cc pc = .ok (.ior, 1)) (k : V p l e R s m args below meth c Q G N0 nL σ cu su (pc + 1) lv (.int (x ||| y) :: st)) : V p l e R s m args below meth c Q G N0 nL σ cu su pc lv (.int y :: .int x :: st) := fun H locs ls hH hS hL => lv_ior X.1 X.2.1 hd (k H locs ls hH hS hL)
theorem V_ladd (X : EX p s m args meth c G N0 own cc nL) {x y : Int64} (hd : decode cc pc = .ok (.ladd, 1)) (k : V p l e R s m args below meth c Q G N0 nL σ cu su (pc + 1) lv (.long (x + y) :: st)) : V p l e R s m args below meth c Q G N0 nL σ cu su pc lv (.long y :: .long x :: st) := fun H locs ls hH hS hL => lv_ladd X.1 X.2.1 hd (k H locs ls hH hS hL)
theorem V_lsub (X : EX p s m args meth c G N0 own cc nL) {x y : Int64} (hd : decode cc pc = .ok (.lsub, 1)) (k : V p l e R s m args below meth c Q G N0 nL σ cu su (pc + 1) lv (.long (x - y) :: st)) : V p l e R s m args below meth c Q G N0 nL σ cu su pc lv (.long y :: .long x :: st) := fun H locs ls hH hS hL => lv_lsub X.1 X.2.1 hd (k H locs ls hH hS hL)
theorem V_lmul (X : EX p s m args meth c G N0 own cc nL) {x y : Int64} (hd : decode cc pc = .ok (.lmul, 1)) (k : V p l e R s m args below meth c Q G N0 nL σ cu su (pc + 1) lv (.long (x * y) :: st)) : V p l e R s m args below meth c Q G N0 nL σ cu su pc lv (.long y :: .long x :: st) := fun H locs ls hH hS hL => lv_lmul X.1 X.2.1 hd (k H locs ls hH hS hL)
theorem V_land (X : EX p s m args meth c G N0 own cc nL) {x y : Int64} (hd : decode cc pc = .ok (.land, 1)) (k : V p l e R s m args below meth c Q G N0 nL σ cu su (pc + 1) lv (.long (x &&& y) :: st)) : V p l e R s m args below meth c Q G N0 nL σ cu su pc lv (.long y :: .long x :: st) := fun H locs ls hH hS hL => lv_land X.1 X.2.1 hd (k H locs ls hH hS hL)
theorem V_lor (X : EX p s m args meth c G N0 own cc nL) {x y : Int64} (hd : decode cc pc = .ok (.lor, 1)) (k : V p l e R s m args below meth c Q G N0 nL σ cu su (pc + 1) lv (.long (x ||| y) :: st)) : V p l e R s m args below meth c Q G N0 nL σ cu su pc lv (.long y :: .long x :: st) := fun H locs ls hH hS hL => lv_lor X.1 X.2.1 hd (k H locs ls hH hS hL)
theorem V_ishl (X : EX p s m args meth c G N0 own cc nL) {x y : Int32} (hd : decode cc pc = .ok (.ishl, 1)) (k : V p l e R s m args below meth c Q G N0 nL σ cu su (pc + 1) lv (.int (x <<< (y &&& 31)) :: st)) : V p l e R s m args below meth c Q G N0 nL σ cu su pc lv (.int y :: .int x :: st) := fun H locs ls hH hS hL => lv_ishl X.1 X.2.1 hd (k H locs ls hH hS hL)
theorem V_ishr (X : EX p s m args meth c G N0 own cc nL) {x y : Int32} (hd : decode cc pc = .ok (.ishr, 1)) (k : V p l e R s m args below meth c Q G N0 nL σ cu su (pc + 1) lv (.int (x >>> (y &&& 31)) :: st)) : V p l e R s m args below meth c Q G N0 nL σ cu su pc lv (.int y :: .int x :: st) := fun H locs ls hH hS hL => lv_ishr X.1 X.2.1 hd (k H locs ls hH hS hL)
theorem V_iushr (X : EX p s m args meth c G N0 own cc nL) {x y : Int32} (hd : decode cc pc = .ok (.iushr, 1)) (k : V p l e R s m args below meth c Q G N0 nL σ cu su (pc + 1) lv (.int ((x.toUInt32 >>> (y.toUInt32 &&& Int32.toUInt32 31)).toInt32) :: st)) : V p l e R s m args below meth c Q G N0 nL σ cu su pc lv (.int y :: .int x :: st) := fun H locs ls hH hS hL => lv_iushr X.1 X.2.1 hd rfl (k H locs ls hH hS hL)
theorem V_lshl (X : EX p s m args meth c G N0 own cc nL) {x : Int64} {y : Int32} (hd : decode cc pc = .ok (.lshl, 1)) (k : V p l e R s m args below meth c Q G N0 nL σ cu su (pc + 1) lv (.long (x <<< (y.toInt64 &&& 63)) :: st)) : V p l e R s m args below meth c Q G N0 nL σ cu su pc lv (.int y :: .long x :: st) := fun H locs ls hH hS hL => lv_lshl X.1 X.2.1 hd rfl (k H locs ls hH hS hL)
theorem V_i2l (X : EX p s m args meth c G N0 own cc nL) {x : Int32} (hd : decode cc pc = .ok (.i2l, 1)) (k : V p l e R s m args below meth c Q G N0 nL σ cu su (pc + 1) lv (.long x.toInt64 :: st)) : V p l e R s m args below meth c Q G N0 nL σ cu su pc lv (.int x :: st) := fun H locs ls hH hS hL => lv_i2l X.1 X.2.1 hd rfl (k H locs ls hH hS hL)
theorem V_l2i (X : EX p s m args meth c G N0 own cc nL) {x : Int64} (hd : decode cc pc = .ok (.l2i, 1)) (k : V p l e R s m args below meth c Q G N0 nL σ cu su (pc + 1) lv (.int x.toInt32 :: st)) : V p l e R s m args below meth c Q G N0 nL σ cu su pc lv (.long x :: st) := fun H locs ls hH hS hL => lv_l2i X.1 X.2.1 hd rfl (k H locs ls hH hS hL)
theorem V_lcmp (X : EX p s m args meth c G N0 own cc nL) {x y : Int64} (hd : decode cc pc = .ok (.lcmp, 1)) (k : V p l e R s m args below meth c Q G N0 nL σ cu su (pc + 1) lv (.int (lg_cmp x y) :: st)) : V p l e R s m args below meth c Q G N0 nL σ cu su pc lv (.long y :: .long x :: st) := fun H locs ls hH hS hL => W.lcmp X.1 X.2.1 hd (k H locs ls hH hS hL)
theorem V_dup (X : EX p s m args meth c G N0 own cc nL) {x : Value} (hd : decode cc pc = .ok (.dup, 1)) (hx : x.category = 1) (k : V p l e R s m args below meth c Q G N0 nL σ cu su (pc + 1) lv (x :: x :: st)) : V p l e R s m args below meth c Q G N0 nL σ cu su pc lv (x :: st) := fun H locs ls hH hS hL => lv_dup X.1 X.2.1 hd hx (k H locs ls hH hS hL)
theorem V_pop (X : EX p s m args meth c G N0 own cc nL) {x : Value} (hd : decode cc pc = .ok (.pop, 1)) (hx : x.category = 1) (k : V p l e R s m args below meth c Q G N0 nL σ cu su (pc + 1) lv (st)) : V p l e R s m args below meth c Q G N0 nL σ cu su pc lv (x :: st) := fun H locs ls hH hS hL => lv_pop X.1 X.2.1 hd hx (k H locs ls hH hS hL)
theorem V_if_eq (X : EX p s m args meth c G N0 own cc nL) {x : Int32} {off : Int} {tgt : Nat} (hd : decode cc pc = .ok (.ifCond .eq off, 3)) (ht : (pc : Int) + off = (tgt : Int)) (kt : (x = 0) → V p l e R s m args below meth c Q G N0 nL σ cu su tgt lv st) (kf : ¬ (x = 0) → V p l e R s m args below meth c Q G N0 nL σ cu su (pc + 3) lv st) : V p l e R s m args below meth c Q G N0 nL σ cu su pc lv (.int x :: st) := fun H locs ls hH hS hL => lv_if_eq X.1 X.2.1 hd ht (fun h => kt h H locs ls hH hS hL) (fun h => kf h H locs ls hH hS hL)
theorem V_if_ne (X : EX p s m args meth c G N0 own cc nL) {x : Int32} {off : Int} {tgt : Nat} (hd : decode cc pc = .ok (.ifCond .ne off, 3)) (ht : (pc : Int) + off = (tgt : Int)) (kt : (¬ x = 0) → V p l e R s m args below meth c Q G N0 nL σ cu su tgt lv st) (kf : (x = 0) → V p l e R s m args below meth c Q G N0 nL σ cu su (pc + 3) lv st) : V p l e R s m args below meth c Q G N0 nL σ cu su pc lv (.int x :: st) := fun H locs ls hH hS hL => lv_if_ne X.1 X.2.1 hd ht (fun h => kt h H locs ls hH hS hL) (fun h => kf h H locs ls hH hS hL)
theorem V_if_lt (X : EX p s m args meth c G N0 own cc nL) {x : Int32} {off : Int} {tgt : Nat} (hd : decode cc pc = .ok (.ifCond .lt off, 3)) (ht : (pc : Int) + off = (tgt : Int)) (kt : (x < 0) → V p l e R s m args below meth c Q G N0 nL σ cu su tgt lv st) (kf : ¬ (x < 0) → V p l e R s m args below meth c Q G N0 nL σ cu su (pc + 3) lv st) : V p l e R s m args below meth c Q G N0 nL σ cu su pc lv (.int x :: st) := fun H locs ls hH hS hL => lv_if_lt X.1 X.2.1 hd ht (fun h => kt h H locs ls hH hS hL) (fun h => kf h H locs ls hH hS hL)
theorem V_if_ge (X : EX p s m args meth c G N0 own cc nL) {x : Int32} {off : Int} {tgt : Nat} (hd : decode cc pc = .ok (.ifCond .ge off, 3)) (ht : (pc : Int) + off = (tgt : Int)) (kt : (0 ≤ x) → V p l e R s m args below meth c Q G N0 nL σ cu su tgt lv st) (kf : ¬ (0 ≤ x) → V p l e R s m args below meth c Q G N0 nL σ cu su (pc + 3) lv st) : V p l e R s m args below meth c Q G N0 nL σ cu su pc lv (.int x :: st) := fun H locs ls hH hS hL => lv_if_ge X.1 X.2.1 hd ht (fun h => kt h H locs ls hH hS hL) (fun h => kf h H locs ls hH hS hL)
theorem V_if_gt (X : EX p s m args meth c G N0 own cc nL) {x : Int32} {off : Int} {tgt : Nat} (hd : decode cc pc = .ok (.ifCond .gt off, 3)) (ht : (pc : Int) + off = (tgt : Int)) (kt : (0 < x) → V p l e R s m args below meth c Q G N0 nL σ cu su tgt lv st) (kf : ¬ (0 < x) → V p l e R s m args below meth c Q G N0 nL σ cu su (pc + 3) lv st) : V p l e R s m args below meth c Q G N0 nL σ cu su pc lv (.int x :: st) := fun H locs ls hH hS hL => lv_if_gt X.1 X.2.1 hd ht (fun h => kt h H locs ls hH hS hL) (fun h => kf h H locs ls hH hS hL)
theorem V_if_le (X : EX p s m args meth c G N0 own cc nL) {x : Int32} {off : Int} {tgt : Nat} (hd : decode cc pc = .ok (.ifCond .le off, 3)) (ht : (pc : Int) + off = (tgt : Int)) (kt : (x ≤ 0) → V p l e R s m args below meth c Q G N0 nL σ cu su tgt lv st) (kf : ¬ (x ≤ 0) → V p l e R s m args below meth c Q G N0 nL σ cu su (pc + 3) lv st) : V p l e R s m args below meth c Q G N0 nL σ cu su pc lv (.int x :: st) := fun H locs ls hH hS hL => lv_if_le X.1 X.2.1 hd ht (fun h => kt h H locs ls hH hS hL) (fun h => kf h H locs ls hH hS hL)
theorem V_icmp_eq (X : EX p s m args meth c G N0 own cc nL) {x y : Int32} {off : Int} {tgt : Nat} (hd : decode cc pc = .ok (.if_icmp .eq off, 3)) (ht : (pc : Int) + off = (tgt : Int)) (kt : (x = y) → V p l e R s m args below meth c Q G N0 nL σ cu su tgt lv st) (kf : ¬ (x = y) → V p l e R s m args below meth c Q G N0 nL σ cu su (pc + 3) lv st) : V p l e R s m args below meth c Q G N0 nL σ cu su pc lv (.int y :: .int x :: st) := fun H locs ls hH hS hL => lv_icmp_eq X.1 X.2.1 hd ht (fun h => kt h H locs ls hH hS hL) (fun h => kf h H locs ls hH hS hL)
theorem V_icmp_ne (X : EX p s m args meth c G N0 own cc nL) {x y : Int32} {off : Int} {tgt : Nat} (hd : decode cc pc = .ok (.if_icmp .ne off, 3)) (ht : (pc : Int) + off = (tgt : Int)) (kt : (¬ x = y) → V p l e R s m args below meth c Q G N0 nL σ cu su tgt lv st) (kf : (x = y) → V p l e R s m args below meth c Q G N0 nL σ cu su (pc + 3) lv st) : V p l e R s m args below meth c Q G N0 nL σ cu su pc lv (.int y :: .int x :: st) := fun H locs ls hH hS hL => lv_icmp_ne X.1 X.2.1 hd ht (fun h => kt h H locs ls hH hS hL) (fun h => kf h H locs ls hH hS hL)
theorem V_icmp_lt (X : EX p s m args meth c G N0 own cc nL) {x y : Int32} {off : Int} {tgt : Nat} (hd : decode cc pc = .ok (.if_icmp .lt off, 3)) (ht : (pc : Int) + off = (tgt : Int)) (kt : (x < y) → V p l e R s m args below meth c Q G N0 nL σ cu su tgt lv st) (kf : ¬ (x < y) → V p l e R s m args below meth c Q G N0 nL σ cu su (pc + 3) lv st) : V p l e R s m args below meth c Q G N0 nL σ cu su pc lv (.int y :: .int x :: st) := fun H locs ls hH hS hL => lv_icmp_lt X.1 X.2.1 hd ht (fun h => kt h H locs ls hH hS hL) (fun h => kf h H locs ls hH hS hL)
theorem V_icmp_ge (X : EX p s m args meth c G N0 own cc nL) {x y : Int32} {off : Int} {tgt : Nat} (hd : decode cc pc = .ok (.if_icmp .ge off, 3)) (ht : (pc : Int) + off = (tgt : Int)) (kt : (y ≤ x) → V p l e R s m args below meth c Q G N0 nL σ cu su tgt lv st) (kf : ¬ (y ≤ x) → V p l e R s m args below meth c Q G N0 nL σ cu su (pc + 3) lv st) : V p l e R s m args below meth c Q G N0 nL σ cu su pc lv (.int y :: .int x :: st) := fun H locs ls hH hS hL => lv_icmp_ge X.1 X.2.1 hd ht (fun h => kt h H locs ls hH hS hL) (fun h => kf h H locs ls hH hS hL)
theorem V_icmp_gt (X : EX p s m args meth c G N0 own cc nL) {x y : Int32} {off : Int} {tgt : Nat} (hd : decode cc pc = .ok (.if_icmp .gt off, 3)) (ht : (pc : Int) + off = (tgt : Int)) (kt : (y < x) → V p l e R s m args below meth c Q G N0 nL σ cu su tgt lv st) (kf : ¬ (y < x) → V p l e R s m args below meth c Q G N0 nL σ cu su (pc + 3) lv st) : V p l e R s m args below meth c Q G N0 nL σ cu su pc lv (.int y :: .int x :: st) := fun H locs ls hH hS hL => lv_icmp_gt X.1 X.2.1 hd ht (fun h => kt h H locs ls hH hS hL) (fun h => kf h H locs ls hH hS hL)
theorem V_icmp_le (X : EX p s m args meth c G N0 own cc nL) {x y : Int32} {off : Int} {tgt : Nat} (hd : decode cc pc = .ok (.if_icmp .le off, 3)) (ht : (pc : Int) + off = (tgt : Int)) (kt : (x ≤ y) → V p l e R s m args below meth c Q G N0 nL σ cu su tgt lv st) (kf : ¬ (x ≤ y) → V p l e R s m args below meth c Q G N0 nL σ cu su (pc + 3) lv st) : V p l e R s m args below meth c Q G N0 nL σ cu su pc lv (.int y :: .int x :: st) := fun H locs ls hH hS hL => lv_icmp_le X.1 X.2.1 hd ht (fun h => kt h H locs ls hH hS hL) (fun h => kf h H locs ls hH hS hL)
theorem V_goto (X : EX p s m args meth c G N0 own cc nL) {off : Int} {tgt : Nat} (hd : decode cc pc = .ok (.goto off, 3)) (ht : (pc : Int) + off = (tgt : Int)) (k : V p l e R s m args below meth c Q G N0 nL σ cu su tgt lv st) : V p l e R s m args below meth c Q G N0 nL σ cu su pc lv st := fun H locs ls hH hS hL => lv_goto X.1 X.2.1 hd ht (k H locs ls hH hS hL)
theorem V_tabIn (X : EX p s m args meth c G N0 own cc nL) {dflt lo hi : Int} {offs : Array Int} {len : Nat} {x : Int32} {off : Int} {tgt : Nat} (hd : decode cc pc = .ok (.tableswitch dflt lo hi offs, len)) (h1 : ¬ x.toInt < lo) (h2 : ¬ hi < x.toInt) (ho : offs[(x.toInt - lo).toNat]? = some off) (ht : (pc : Int) + off = (tgt : Int)) (k : V p l e R s m args below meth c Q G N0 nL σ cu su tgt lv st) : V p l e R s m args below meth c Q G N0 nL σ cu su pc lv (.int x :: st) := fun H locs ls hH hS hL => lv_tableIn X.1 X.2.1 hd h1 h2 ho ht (k H locs ls hH hS hL)
theorem V_tabOut (X : EX p s m args meth c G N0 own cc nL) {dflt lo hi : Int} {offs : Array Int} {len : Nat} {x : Int32} {tgt : Nat} (hd : decode cc pc = .ok (.tableswitch dflt lo hi offs, len)) (h : x.toInt < lo ∨ hi < x.toInt) (ht : (pc : Int) + dflt = (tgt : Int)) (k : V p l e R s m args below meth c Q G N0 nL σ cu su tgt lv st) : V p l e R s m args below meth c Q G N0 nL σ cu su pc lv (.int x :: st) := fun H locs ls hH hS hL => lv_tableOut X.1 X.2.1 hd h ht (k H locs ls hH hS hL)
theorem V_ifnull (X : EX p s m args meth c G N0 own cc nL) {x : Option Nat} {off : Int} {tgt : Nat} (hd : decode cc pc = .ok (.ifnull off, 3)) (ht : (pc : Int) + off = (tgt : Int)) (kt : x = none → V p l e R s m args below meth c Q G N0 nL σ cu su tgt lv st) (kf : ∀ a, x = some a → V p l e R s m args below meth c Q G N0 nL σ cu su (pc + 3) lv st) : V p l e R s m args below meth c Q G N0 nL σ cu su pc lv (va_rf x :: st) := fun H locs ls hH hS hL => by
  cases x with
  | none => exact lv_ifnullN X.1 X.2.1 hd ht (kt rfl H locs ls hH hS hL)
  | some a => exact lv_ifnull X.1 X.2.1 hd (kf a rfl H locs ls hH hS hL)
theorem V_ifnonnull (X : EX p s m args meth c G N0 own cc nL) {x : Option Nat} {off : Int} {tgt : Nat} (hd : decode cc pc = .ok (.ifnonnull off, 3)) (ht : (pc : Int) + off = (tgt : Int)) (kt : ∀ a, x = some a → V p l e R s m args below meth c Q G N0 nL σ cu su tgt lv st) (kf : x = none → V p l e R s m args below meth c Q G N0 nL σ cu su (pc + 3) lv st) : V p l e R s m args below meth c Q G N0 nL σ cu su pc lv (va_rf x :: st) := fun H locs ls hH hS hL => by
  cases x with
  | none => exact lv_ifnonnullN X.1 X.2.1 hd (kf rfl H locs ls hH hS hL)
  | some a => exact lv_ifnonnull X.1 X.2.1 hd ht (kt a rfl H locs ls hH hS hL)
end SEM
end
section
theorem cF_of {G : GG} {σ : Hp} {a : Nat} {u : Nat × Nat} (h : gk σ a = some u) : cF G σ a = cE G σ a u := by simp [cF, h]
theorem cF_same {G : GG} {σ σ' : Hp} {b : Nat} (h1 : gk σ' b = gk σ b) (h2 : gi σ' b = gi σ b) (h3 : gl σ' b = gl σ b) (h4 : gr σ' b = gr σ b) : cF G σ' b = cF G σ b := by
  have h5 : ∀ t, fv σ' t b = fv σ t b := fun t => by
    funext k
    simp only [fv, h2, h3, h4]
  simp only [cF, cE, h1, h2, h4, h5]
theorem cE_obj {G : GG} {σ : Hp} {a t n : Nat} (ht : t < 10) : cE G σ a (t, n) = .inr (t, (List.range (ncl t)).map (fv σ t a)) := by
  show (if t < 10 then _ else _) = _
  rw [if_pos ht]
theorem cE_ia {G : GG} {σ : Hp} {a t n : Nat} (h1 : ¬ t < 10) (h2 : t < 12) : cE G σ a (t, n) = .inl (G.2.1 t, n, .inl (gi σ a)) := by
  show (if t < 10 then _ else if t < 12 then _ else _) = _
  rw [if_neg h1, if_pos h2]
theorem cE_qa {G : GG} {σ : Hp} {a t n : Nat} (h2 : ¬ t < 12) : cE G σ a (t, n) = .inl (G.2.1 t, n, .inr (.inr (.inr (.inr (gr σ a))))) := by
  show (if t < 10 then _ else if t < 12 then _ else _) = _
  rw [if_neg (by omega), if_neg h2]
theorem map_set_range {f g : Nat → Value} {N k : Nat} {v : Value} (hv : g k = v) (ho : ∀ j, j ≠ k → g j = f j) : ((List.range N).map f).set k v = (List.range N).map g := by
  apply List.ext_getElem?
  intro j
  by_cases hj : j = k
  · subst hj
    by_cases hN : j < N
    · rw [List.getElem?_set_self (by simpa using hN)]
      simp [List.getElem?_range hN, hv]
    · rw [List.getElem?_eq_none (by simp; omega), List.getElem?_eq_none (by simp; omega)]
  · rw [List.getElem?_set_ne (Ne.symm hj)]
    by_cases hN : j < N
    · simp [List.getElem?_range hN, ho j hj]
    · rw [List.getElem?_eq_none (by simp; omega), List.getElem?_eq_none (by simp; omega)]
theorem HP.at {G : GG} {N0 : Nat} {σ : Hp} {H : Heap} {L : List Nat} (hdom : ∀ a : Nat, gk σ a ≠ none ↔ a ∈ L) {a : Nat} {u : Nat × Nat} (h : gk σ a = some u) : ∃ k : Nat, (va_pl L (cF G σ))[k]? = some (a, cE G σ a u) ∧ (va_pl L (cF G σ))[k]? = some (a, cF G σ a) ∧ a ∈ L := by
  have hm : a ∈ L := (hdom a).mp (by rw [h]; exact fun q => by cases q)
  obtain ⟨k, hk⟩ := va_pl_get (X := []) (f := cF G σ) hm
  exact ⟨k, by rw [← cF_of h]; exact hk, hk, hm⟩
/-- a heap picture with one cell changed -/
theorem HP.put {G : GG} {N0 : Nat} {σ σ' : Hp} {H : Heap} {L : List Nat} {a k : Nat} {e : va_E} (hdom : ∀ a : Nat, gk σ a ≠ none ↔ a ∈ L) (hD0 : va_D (AN N0) (va_pl L (cF G σ))) (hm : a ∈ L) (hk : (va_pl L (cF G σ))[k]? = some (a, cF G σ a))
    (hP : va_P G.1 vwCl ((va_pl L (cF G σ)).set k (a, e)) H) (hD : va_D (AN N0) ((va_pl L (cF G σ)).set k (a, e))) (hkd : ∀ b, gk σ' b = gk σ b) (he : cF G σ' a = e) (ho : ∀ b, b ≠ a → gi σ' b = gi σ b ∧ gl σ' b = gl σ b ∧ gr σ' b = gr σ b) : HP G N0 σ' H := by
  have hs : (va_pl L (cF G σ)).set k (a, e) = va_pl L (va_up (cF G σ) a e) := va_pl_set (X := []) hD0 hm hk
  have hq : va_pl L (va_up (cF G σ) a e) = va_pl L (cF G σ') := va_pl_congr fun b => by
    by_cases hb : b = a
    · subst hb
      rw [va_up_self, he]
    · rw [va_up_ne _ _ hb]
      obtain ⟨h2, h3, h4⟩ := ho b hb
      exact (cF_same (hkd b) h2 h3 h4).symm
  rw [hs, hq] at hP hD
  exact ⟨L, fun b => by rw [hkd b]; exact hdom b, hP, hD⟩
theorem up2_ne {α : Type} (f : Nat → Nat → α) {a b : Nat} (k : Nat) (v : α) (h : b ≠ a) : up2 f a k v b = f b := by
  funext j
  simp [up2, h]
theorem si_ne (σ : Hp) {a b : Nat} (k : Nat) (v : Int32) (h : b ≠ a) : gi (si σ a k v) b = gi σ b ∧ gl (si σ a k v) b = gl σ b ∧ gr (si σ a k v) b = gr σ b := ⟨up2_ne _ _ _ h, rfl, rfl⟩
theorem sl_ne (σ : Hp) {a b : Nat} (k : Nat) (v : Int64) (h : b ≠ a) : gi (sl σ a k v) b = gi σ b ∧ gl (sl σ a k v) b = gl σ b ∧ gr (sl σ a k v) b = gr σ b := ⟨rfl, up2_ne _ _ _ h, rfl⟩
theorem sr_ne (σ : Hp) {a b : Nat} (k : Nat) (v : Option Nat) (h : b ≠ a) : gi (sr σ a k v) b = gi σ b ∧ gl (sr σ a k v) b = gl σ b ∧ gr (sr σ a k v) b = gr σ b := ⟨rfl, rfl, up2_ne _ _ _ h⟩
/-- a field by its place in a class file -/
def FP (own : String) (index t k : Nat) (ty : FieldType) (fin : Bool) : Prop := ∃ (r : vw_C) (ty0 : Nat → FieldType), vwCl[t]? = some r ∧ k < r.2.2 ∧ k < ncl t ∧ t < 10 ∧ (∀ w ∈ u_ws r.1 r.2.1 r.2.2, w ∈ wAll) ∧ Cond.fieldLink own index (r.2.1 k).1 (r.2.1 k).2.1 (r.2.1 k).2.2.1 ∈ wAll ∧
  (∀ j, j < r.2.2 → parseFieldDescriptor (r.2.1 j).2.2.1 = some (ty0 j)) ∧ (∀ a, a < r.2.2 → ∀ b, b < r.2.2 → a ≠ b → (r.2.1 a).2.1 ≠ (r.2.1 b).2.1) ∧ (r.2.1 k).2.2.2 = fin ∧ ty0 k = ty ∧ (fin = true → (r.2.1 k).1 = own)
/-- a class that is made -/
def dv (t k : Nat) : Value := match fty t k with
  | 0 => .int 0
  | 1 => .long 0
  | _ => .null
def NP (own : String) (index t : Nat) : Prop := ∃ (r : vw_C) (ty0 : Nat → FieldType), vwCl[t]? = some r ∧ t < 10 ∧ r.2.2 = ncl t ∧ (∀ w ∈ u_ws r.1 r.2.1 r.2.2, w ∈ wAll) ∧ Cond.classLink own index r.1 ∈ wAll ∧ Cond.instantiable r.1 r.2.2 ∈ wAll ∧ Cond.initialized r.1 ∈ wAll ∧
  (∀ j, j < r.2.2 → parseFieldDescriptor (r.2.1 j).2.2.1 = some (ty0 j)) ∧ (∀ j, j < r.2.2 → defaultValue (ty0 j) = vp_V ((List.range (ncl t)).map (dv t)) j)
section MEM
variable {p : Program} {l : Launch} {e : Env} {R : Room} {s : State} {m : MethodId} {args : Array Value} {below : List Frame} {meth : Method} {c : Code} {Q : State → Prop} {G : GG} {N0 : Nat} {own : String} {cc : ByteArray} {nL : Nat}
variable {σ : Hp} {cu su pc : Nat} {lv lv' : List (Nat × Value)} {st : List Value}
theorem V_get (X : EX p s m args meth c G N0 own cc nL) {index t k n a : Nat} {ty : FieldType} {fin : Bool} (hf : FP own index t k ty fin) (hkd : gk σ a = some (t, n)) (hd : decode cc pc = .ok (.getfield index, 3)) (kk : V p l e R s m args below meth c Q G N0 nL σ cu su (pc + 3) lv (fv σ t a k :: st)) : V p l e R s m args below meth c Q G N0 nL σ cu su pc lv (.ref a :: st) := by
  intro H locs ls hH hS hL
  obtain ⟨L, hdom, hP, hD⟩ := id hH
  obtain ⟨r, ty0, hc, hkN, hkn, ht, hin, hlk, hty, hnm, hfin, he, -⟩ := hf
  obtain ⟨q, hq, -, hm⟩ := HP.at (N0 := N0) (H := H) (G := G) hdom hkd
  rw [cE_obj ht] at hq
  exact va_get (D := G.1) X.1 X.2.1 X.2.2.2.2.1 hin X.2.2.2.1 X.2.2.2.2.2.2.1.1 hP q hq hc k hkN (X.2.2.2.2.1 _ hlk) (fun _ h => h) (by simp [List.getElem?_range hkn]) hd (kk H locs ls hH hS hL)
theorem V_geti (X : EX p s m args meth c G N0 own cc nL) {index t k n a : Nat} {ty : FieldType} {fin : Bool} (hf : FP own index t k ty fin) (h0 : fty t k = 0) (hkd : gk σ a = some (t, n)) (hd : decode cc pc = .ok (.getfield index, 3)) (kk : V p l e R s m args below meth c Q G N0 nL σ cu su (pc + 3) lv (.int (gi σ a k) :: st)) : V p l e R s m args below meth c Q G N0 nL σ cu su pc lv (.ref a :: st) :=
  V_get X hf hkd hd (by rw [show fv σ t a k = .int (gi σ a k) by simp [fv, h0]]; exact kk)
theorem V_getl (X : EX p s m args meth c G N0 own cc nL) {index t k n a : Nat} {ty : FieldType} {fin : Bool} (hf : FP own index t k ty fin) (h0 : fty t k = 1) (hkd : gk σ a = some (t, n)) (hd : decode cc pc = .ok (.getfield index, 3)) (kk : V p l e R s m args below meth c Q G N0 nL σ cu su (pc + 3) lv (.long (gl σ a k) :: st)) : V p l e R s m args below meth c Q G N0 nL σ cu su pc lv (.ref a :: st) :=
  V_get X hf hkd hd (by rw [show fv σ t a k = .long (gl σ a k) by simp [fv, h0]]; exact kk)
theorem V_getr (X : EX p s m args meth c G N0 own cc nL) {index t k n a : Nat} {ty : FieldType} {fin : Bool} (hf : FP own index t k ty fin) (h0 : fty t k = 2) (hkd : gk σ a = some (t, n)) (hd : decode cc pc = .ok (.getfield index, 3)) (kk : V p l e R s m args below meth c Q G N0 nL σ cu su (pc + 3) lv (va_rf (gr σ a k) :: st)) : V p l e R s m args below meth c Q G N0 nL σ cu su pc lv (.ref a :: st) :=
  V_get X hf hkd hd (by rw [show fv σ t a k = va_rf (gr σ a k) by simp [fv, h0]]; exact kk)
theorem V_put (X : EX p s m args meth c G N0 own cc nL) {σ' : Hp} {index t k n a : Nat} {v : Value} {ty : FieldType} {fin : Bool} (hf : FP own index t k ty fin) (hinit : fin = true → meth.name = "<init>") (hkd : gk σ a = some (t, n)) (hn : narrow ty v = v) (hfit : fits ty v = true) (hkd' : ∀ b, gk σ' b = gk σ b) (hv : fv σ' t a k = v) (hj : ∀ j, j ≠ k → fv σ' t a j = fv σ t a j) (ho : ∀ b, b ≠ a → gi σ' b = gi σ b ∧ gl σ' b = gl σ b ∧ gr σ' b = gr σ b) (hd : decode cc pc = .ok (.putfield index, 3)) (kk : V p l e R s m args below meth c Q G N0 nL σ' cu su (pc + 3) lv st) : V p l e R s m args below meth c Q G N0 nL σ cu su pc lv (v :: .ref a :: st) := by
  intro H locs ls hH hS hL
  obtain ⟨L, hdom, hP, hD⟩ := id hH
  obtain ⟨r, ty0, hc, hkN, hkn, ht, hin, hlk, hty, hnm, hfin, he, hdecl⟩ := hf
  obtain ⟨q, hq, hq2, hm⟩ := HP.at (N0 := N0) (H := H) (G := G) hdom hkd
  rw [cE_obj ht] at hq
  subst he
  have hfin' : ∀ (H1 : Heap) (locs1 : List Loc), va_P G.1 vwCl ((va_pl L (cF G σ)).set q (a, .inr (t, ((List.range (ncl t)).map (fv σ t a)).set k v))) H1 → va_D (AN N0) ((va_pl L (cF G σ)).set q (a, .inr (t, ((List.range (ncl t)).map (fv σ t a)).set k v))) → va_S (AN N0) s.heap H1 locs1 → W p l e R s m args below meth c H1 locs1 cu su Q (F0 m (pc + 3) ls st) := by
    intro H1 locs1 hP1 hD1 hS1
    refine kk H1 locs1 ls (HP.put hdom hD hm hq2 hP1 hD1 hkd' ?_ ho) hS1 hL
    rw [cF_of (show gk σ' a = some (t, n) by rw [hkd' a]; exact hkd), cE_obj ht, map_set_range hv hj]
  cases fin with
  | false => exact va_put (D := G.1) X.1 X.2.1 X.2.2.2.2.1 hin ty0 hty hnm X.2.2.2.1 X.2.2.2.2.2.2.1.1 hP hD hS q hq hc k hkN (X.2.2.2.2.1 _ hlk) (fun _ h => h) hfin (hty k hkN) hn hfit (by simpa using hkn) hd hfin'
  | true => exact va_putF (D := G.1) X.1 X.2.1 X.2.2.2.2.1 hin ty0 hty hnm X.2.2.2.1 X.2.2.2.2.2.2.1.1 hP hD hS q hq hc k hkN (X.2.2.2.2.1 _ hlk) (fun _ h => h) hfin (hinit rfl) (hdecl rfl) (hty k hkN) hn hfit (by simpa using hkn) hd hfin'
theorem V_puti (X : EX p s m args meth c G N0 own cc nL) {index t k n a : Nat} {v : Int32} {ty : FieldType} {fin : Bool} (hf : FP own index t k ty fin) (hinit : fin = true → meth.name = "<init>") (h0 : fty t k = 0) (hkd : gk σ a = some (t, n)) (hz : ty = .int ∨ ty = .boolean ∧ (v = 0 ∨ v = 1)) (hd : decode cc pc = .ok (.putfield index, 3)) (kk : V p l e R s m args below meth c Q G N0 nL (si σ a k v) cu su (pc + 3) lv st) : V p l e R s m args below meth c Q G N0 nL σ cu su pc lv (.int v :: .ref a :: st) := by
  refine V_put (σ' := si σ a k v) X hf hinit hkd ?_ ?_ (fun _ => rfl) (by simp [fv, h0, gi_si]) (fun j hj => by simp [fv, gi_si, gl_si, gr_si, hj]) (fun b hb => si_ne σ k v hb) hd kk
  · rcases hz with rfl | ⟨rfl, rfl | rfl⟩ <;> rfl
  · rcases hz with rfl | ⟨rfl, rfl | rfl⟩ <;> first | rfl | decide
theorem V_putl (X : EX p s m args meth c G N0 own cc nL) {index t k n a : Nat} {v : Int64} {fin : Bool} (hf : FP own index t k .long fin) (hinit : fin = true → meth.name = "<init>") (h0 : fty t k = 1) (hkd : gk σ a = some (t, n)) (hd : decode cc pc = .ok (.putfield index, 3)) (kk : V p l e R s m args below meth c Q G N0 nL (sl σ a k v) cu su (pc + 3) lv st) : V p l e R s m args below meth c Q G N0 nL σ cu su pc lv (.long v :: .ref a :: st) :=
  V_put (σ' := sl σ a k v) X hf hinit hkd rfl rfl (fun _ => rfl) (by simp [fv, h0, gl_sl]) (fun j hj => by simp [fv, gi_sl, gl_sl, gr_sl, hj]) (fun b hb => sl_ne σ k v hb) hd kk
theorem V_putr (X : EX p s m args meth c G N0 own cc nL) {index t k n a : Nat} {v : Option Nat} {ty : FieldType} {fin : Bool} (hf : FP own index t k ty fin) (hinit : fin = true → meth.name = "<init>") (h0 : fty t k = 2) (hkd : gk σ a = some (t, n)) (hty : (∃ C, ty = .object C) ∨ ∃ C, ty = .array C) (hd : decode cc pc = .ok (.putfield index, 3)) (kk : V p l e R s m args below meth c Q G N0 nL (sr σ a k v) cu su (pc + 3) lv st) : V p l e R s m args below meth c Q G N0 nL σ cu su pc lv (va_rf v :: .ref a :: st) := by
  refine V_put (σ' := sr σ a k v) X hf hinit hkd ?_ ?_ (fun _ => rfl) (by simp [fv, h0, gr_sr]) (fun j hj => by simp [fv, gi_sr, gl_sr, gr_sr, hj]) (fun b hb => sr_ne σ k v hb) hd kk
  · cases v <;> rcases hty with ⟨C, rfl⟩ | ⟨C, rfl⟩ <;> rfl
  · cases v <;> rcases hty with ⟨C, rfl⟩ | ⟨C, rfl⟩ <;> rfl
theorem V_iald (X : EX p s m args meth c G N0 own cc nL) {n a : Nat} {i : Int32} (hkd : gk σ a = some (10, n)) (hin : vp_in i n) (hd : decode cc pc = .ok (.iaload, 1)) (kk : V p l e R s m args below meth c Q G N0 nL σ cu su (pc + 1) lv (.int (gi σ a i.toNatClampNeg) :: st)) : V p l e R s m args below meth c Q G N0 nL σ cu su pc lv (.int i :: .ref a :: st) := by
  intro H locs ls hH hS hL
  obtain ⟨L, hdom, hP, hD⟩ := id hH
  obtain ⟨q, hq, -, hm⟩ := HP.at (N0 := N0) (H := H) (G := G) hdom hkd
  rw [cE_ia (by decide) (by decide)] at hq
  exact va_iald (D := G.1) X.1 X.2.1 X.2.2.2.2.2.2.1.1 hP q 0 hq rfl hin hd (kk H locs ls hH hS hL)
theorem V_zald (X : EX p s m args meth c G N0 own cc nL) {n a : Nat} {i : Int32} (hkd : gk σ a = some (11, n)) (hin : vp_in i n) (hd : decode cc pc = .ok (.baload, 1)) (kk : V p l e R s m args below meth c Q G N0 nL σ cu su (pc + 1) lv (.int (gi σ a i.toNatClampNeg) :: st)) : V p l e R s m args below meth c Q G N0 nL σ cu su pc lv (.int i :: .ref a :: st) := by
  intro H locs ls hH hS hL
  obtain ⟨L, hdom, hP, hD⟩ := id hH
  obtain ⟨q, hq, -, hm⟩ := HP.at (N0 := N0) (H := H) (G := G) hdom hkd
  rw [cE_ia (by decide) (by decide)] at hq
  exact va_zald (D := G.1) X.1 X.2.1 X.2.2.2.2.2.2.1.1 hP q 1 hq rfl hin hd (kk H locs ls hH hS hL)
theorem V_aald (X : EX p s m args meth c G N0 own cc nL) {t n a : Nat} {i : Int32} (ht : t = 12 ∨ t = 13) (hkd : gk σ a = some (t, n)) (hin : vp_in i n) (hd : decode cc pc = .ok (.aaload, 1)) (kk : V p l e R s m args below meth c Q G N0 nL σ cu su (pc + 1) lv (va_rf (gr σ a i.toNatClampNeg) :: st)) : V p l e R s m args below meth c Q G N0 nL σ cu su pc lv (.int i :: .ref a :: st) := by
  intro H locs ls hH hS hL
  obtain ⟨L, hdom, hP, hD⟩ := id hH
  obtain ⟨q, hq, -, hm⟩ := HP.at (N0 := N0) (H := H) (G := G) hdom hkd
  rw [cE_qa (by rcases ht with rfl | rfl <;> decide)] at hq
  rcases ht with rfl | rfl
  · exact va_aldq (D := G.1) X.1 X.2.1 X.2.2.2.2.2.2.1.1 hP q 2 hq rfl hin hd (kk H locs ls hH hS hL)
  · exact va_aldq (D := G.1) X.1 X.2.1 X.2.2.2.2.2.2.1.1 hP q 3 hq rfl hin hd (kk H locs ls hH hS hL)
theorem si_upd (σ : Hp) (a k : Nat) (v : Int32) : gi (si σ a k v) a = upd (gi σ a) k v := by
  funext j
  show up2 σ.2.1 a k v a j = _
  simp [up2, upd]
  rfl
theorem sr_upd (σ : Hp) (a k : Nat) (v : Option Nat) : gr (sr σ a k v) a = va_up (gr σ a) k v := by
  funext j
  show up2 σ.2.2.2 a k v a j = _
  simp [up2, va_up]
  rfl
theorem V_iast (X : EX p s m args meth c G N0 own cc nL) {n a : Nat} {i x : Int32} (hkd : gk σ a = some (10, n)) (hin : vp_in i n) (hd : decode cc pc = .ok (.iastore, 1)) (kk : V p l e R s m args below meth c Q G N0 nL (si σ a i.toNatClampNeg x) cu su (pc + 1) lv st) : V p l e R s m args below meth c Q G N0 nL σ cu su pc lv (.int x :: .int i :: .ref a :: st) := by
  intro H locs ls hH hS hL
  obtain ⟨L, hdom, hP, hD⟩ := id hH
  obtain ⟨q, hq, hq2, hm⟩ := HP.at (N0 := N0) (H := H) (G := G) hdom hkd
  rw [cE_ia (by decide) (by decide)] at hq
  refine va_iast (D := G.1) X.1 X.2.1 X.2.2.2.2.2.2.1.1 hP hD hS q 0 hq rfl hin hd fun H1 locs1 hP1 hD1 hS1 => kk H1 locs1 ls (HP.put hdom hD hm hq2 hP1 hD1 (fun _ => rfl) ?_ (fun b hb => si_ne σ _ x hb)) hS1 hL
  rw [cF_of (show gk (si σ a i.toNatClampNeg x) a = some (10, n) from hkd), cE_ia (by decide) (by decide), si_upd]
theorem V_zast (X : EX p s m args meth c G N0 own cc nL) {n a : Nat} {i x : Int32} (hkd : gk σ a = some (11, n)) (hin : vp_in i n) (hx : x = 0 ∨ x = 1) (hd : decode cc pc = .ok (.bastore, 1)) (kk : V p l e R s m args below meth c Q G N0 nL (si σ a i.toNatClampNeg x) cu su (pc + 1) lv st) : V p l e R s m args below meth c Q G N0 nL σ cu su pc lv (.int x :: .int i :: .ref a :: st) := by
  intro H locs ls hH hS hL
  obtain ⟨L, hdom, hP, hD⟩ := id hH
  obtain ⟨q, hq, hq2, hm⟩ := HP.at (N0 := N0) (H := H) (G := G) hdom hkd
  rw [cE_ia (by decide) (by decide)] at hq
  have hnx : vp_nar .boolean x = x := by rcases hx with rfl | rfl <;> decide
  refine va_zast (D := G.1) X.1 X.2.1 X.2.2.2.2.2.2.1.1 hP hD hS q 1 hq rfl hin hd fun H1 locs1 hP1 hD1 hS1 => kk H1 locs1 ls (HP.put hdom hD hm hq2 hP1 hD1 (fun _ => rfl) ?_ (fun b hb => si_ne σ _ x hb)) hS1 hL
  rw [cF_of (show gk (si σ a i.toNatClampNeg x) a = some (11, n) from hkd), cE_ia (by decide) (by decide), si_upd, hnx]
theorem V_aast (X : EX p s m args meth c G N0 own cc nL) {t tv n a : Nat} {i : Int32} {x : Option Nat} (ht : t = 12 ∧ tv = 3 ∨ t = 13 ∧ tv = 4) (hkd : gk σ a = some (t, n)) (hin : vp_in i n) (hx : ∀ v, x = some v → ∃ z, gk σ v = some (tv, z)) (hd : decode cc pc = .ok (.aastore, 1)) (kk : V p l e R s m args below meth c Q G N0 nL (sr σ a i.toNatClampNeg x) cu su (pc + 1) lv st) : V p l e R s m args below meth c Q G N0 nL σ cu su pc lv (va_rf x :: .int i :: .ref a :: st) := by
  intro H locs ls hH hS hL
  obtain ⟨L, hdom, hP, hD⟩ := id hH
  obtain ⟨q, hq, hq2, hm⟩ := HP.at (N0 := N0) (H := H) (G := G) hdom hkd
  have ht12 : ¬ t < 12 := by rcases ht with ⟨rfl, -⟩ | ⟨rfl, -⟩ <;> decide
  rw [cE_qa ht12] at hq
  have hfin : ∀ (H1 : Heap) (locs1 : List Loc), va_P G.1 vwCl ((va_pl L (cF G σ)).set q (a, .inl (G.2.1 t, n, .inr (.inr (.inr (.inr (va_up (gr σ a) i.toNatClampNeg x))))))) H1 → va_D (AN N0) ((va_pl L (cF G σ)).set q (a, .inl (G.2.1 t, n, .inr (.inr (.inr (.inr (va_up (gr σ a) i.toNatClampNeg x))))))) → va_S (AN N0) s.heap H1 locs1 → W p l e R s m args below meth c H1 locs1 cu su Q (F0 m (pc + 1) ls st) := by
    intro H1 locs1 hP1 hD1 hS1
    refine kk H1 locs1 ls (HP.put hdom hD hm hq2 hP1 hD1 (fun _ => rfl) ?_ (fun b hb => sr_ne σ _ x hb)) hS1 hL
    rw [cF_of (show gk (sr σ a i.toNatClampNeg x) a = some (t, n) from hkd), cE_qa ht12, sr_upd]
  cases x with
  | none =>
    rcases ht with ⟨rfl, rfl⟩ | ⟨rfl, rfl⟩
    · exact va_astqN (D := G.1) X.1 X.2.1 X.2.2.2.2.2.2.1.1 hP hD hS q 2 hq rfl hin hd hfin
    · exact va_astqN (D := G.1) X.1 X.2.1 X.2.2.2.2.2.2.1.1 hP hD hS q 3 hq rfl hin hd hfin
  | some v =>
    obtain ⟨z, hz⟩ := hx v rfl
    obtain ⟨qv, hqv, -, -⟩ := HP.at (N0 := N0) (H := H) (G := G) hdom hz
    rcases ht with ⟨rfl, rfl⟩ | ⟨rfl, rfl⟩
    · rw [cE_obj (by decide)] at hqv
      exact va_astq (D := G.1) X.1 X.2.1 X.2.2.2.2.2.2.1.1 hP hD hS q 2 qv 3 (r := (RX3, TX3, 2)) hq rfl hqv rfl hin hd hfin
    · rw [cE_obj (by decide)] at hqv
      exact va_astq (D := G.1) X.1 X.2.1 X.2.2.2.2.2.2.1.1 hP hD hS q 3 qv 4 (r := (RX4, TX4, 6)) hq rfl hqv rfl hin hd hfin
theorem V_alen (X : EX p s m args meth c G N0 own cc nL) {t n a : Nat} (ht : t = 10 ∨ t = 11 ∨ t = 12 ∨ t = 13) (hkd : gk σ a = some (t, n)) (hd : decode cc pc = .ok (.arraylength, 1)) (kk : V p l e R s m args below meth c Q G N0 nL σ cu su (pc + 1) lv (.int (Int32.ofNat n) :: st)) : V p l e R s m args below meth c Q G N0 nL σ cu su pc lv (.ref a :: st) := by
  intro H locs ls hH hS hL
  obtain ⟨L, hdom, hP, hD⟩ := id hH
  obtain ⟨q, hq, -, hm⟩ := HP.at (N0 := N0) (H := H) (G := G) hdom hkd
  rcases ht with rfl | rfl | rfl | rfl
  · rw [cE_ia (by decide) (by decide)] at hq
    exact va_alen (D := G.1) X.1 X.2.1 X.2.2.2.2.2.2.1.1 hP q 0 hq rfl rfl hd (kk H locs ls hH hS hL)
  · rw [cE_ia (by decide) (by decide)] at hq
    exact va_alen (D := G.1) X.1 X.2.1 X.2.2.2.2.2.2.1.1 hP q 1 hq rfl rfl hd (kk H locs ls hH hS hL)
  · rw [cE_qa (by decide)] at hq
    exact va_alen (D := G.1) X.1 X.2.1 X.2.2.2.2.2.2.1.1 hP q 2 hq rfl rfl hd (kk H locs ls hH hS hL)
  · rw [cE_qa (by decide)] at hq
    exact va_alen (D := G.1) X.1 X.2.1 X.2.2.2.2.2.2.1.1 hP q 3 hq rfl rfl hd (kk H locs ls hH hS hL)
end MEM
end
section
theorem HP.fresh {G : GG} {N0 : Nat} {σ : Hp} {q t n : Nat} {H : Heap} {L : List Nat} {e : va_E} (hdom : ∀ a : Nat, gk σ a ≠ none ↔ a ∈ L) (hP : va_P G.1 vwCl (va_pl L (cF G σ) ++ [(q, e)]) H) (hD : va_D (AN N0) (va_pl L (cF G σ) ++ [(q, e)])) (he : cF G (nw σ q t n) q = e) : gk σ q = none ∧ HP G N0 (nw σ q t n) H := by
  have hq : q ∉ L := fun hm => by
    obtain ⟨k, hk⟩ := va_pl_get (X := []) (f := cF G σ) hm
    have hl : k < (va_pl L (cF G σ)).length := (List.getElem?_eq_some_iff.mp hk).1
    have h1 : (va_pl L (cF G σ) ++ [(q, e)])[k]? = some (q, cF G σ q) := by rw [List.getElem?_append_left hl]; exact hk
    have h2 : (va_pl L (cF G σ) ++ [(q, e)])[(va_pl L (cF G σ)).length]? = some (q, e) := by simp
    have := hD.1 _ _ _ _ h1 h2 rfl
    omega
  have hne : ∀ b, b ∈ L → b ≠ q := fun b hb h => hq (h ▸ hb)
  have hs : va_pl L (cF G σ) ++ [(q, e)] = va_pl (L ++ [q]) (cF G (nw σ q t n)) := by
    rw [va_pl_push hq]
    simp only [va_pl]
    apply List.map_congr_left
    intro b hb
    by_cases hbq : b = q
    · subst hbq
      rw [va_up_self, he]
    · rw [va_up_ne _ _ hbq]
      congr 1
      exact (cF_same (by rw [gk_nw, if_neg hbq]) (by funext j; rw [gi_nw, if_neg hbq]) (by funext j; rw [gl_nw, if_neg hbq]) (by funext j; rw [gr_nw, if_neg hbq])).symm
  rw [hs] at hP hD
  refine ⟨Classical.byContradiction fun h => hq ((hdom q).mp h), L ++ [q], fun b => ?_, hP, hD⟩
  rw [gk_nw, List.mem_append, List.mem_singleton]
  by_cases hbq : b = q
  · simp [hbq]
  · rw [if_neg hbq, hdom b]
    simp [hbq]
theorem ra_eq {s : State} {x y : ClassId} {ty : FieldType} (h1 : va_RA s x ty) (h2 : va_RA s y ty) : x = y := by
  cases ty with
  | object C =>
    obtain ⟨_, _, _, _, _, h1⟩ := h1
    obtain ⟨_, _, _, _, _, h2⟩ := h2
    exact Option.some.inj (h1.symm.trans h2)
  | _ =>
    have h1 : s.vm.findClass _ = some x := h1
    have h2 : s.vm.findClass _ = some y := h2
    exact Option.some.inj (h1.symm.trans h2)
/-- a call's words -/
def CW (own : String) (index : Nat) (y : MethodName) (bytes : ByteArray) (maxL : Nat) (ret : Option FieldType) (n : Nat) : Prop :=
  Cond.methodLink own index y ∈ wAll ∧ Cond.initialized y.cls ∈ wAll ∧ Cond.code y bytes maxL ret ∈ wAll ∧ y.cls ≠ "java/lang/invoke/MethodHandle" ∧ y.cls ≠ "java/lang/invoke/VarHandle" ∧ (parseMethodDescriptor y.desc).map (fun d => d.parameters.length) = some n
/-- a call's words, of a nest mate's private member -/
def CN (own : String) (index : Nat) (y : MethodName) (host : String) (bytes : ByteArray) (maxL : Nat) (ret : Option FieldType) (n : Nat) : Prop :=
  (own, index, y, host) ∈ nestW ∧ Cond.initialized y.cls ∈ wAll ∧ Cond.code y bytes maxL ret ∈ wAll ∧ y.cls ≠ "java/lang/invoke/MethodHandle" ∧ y.cls ≠ "java/lang/invoke/VarHandle" ∧ (parseMethodDescriptor y.desc).map (fun d => d.parameters.length) = some n
theorem goodIn_code {y : MethodName} {bytes : ByteArray} {maxL : Nat} {ret : Option FieldType} (h : Cond.code y bytes maxL ret ∈ wAll) : GoodIn wAll (Cond.code y bytes maxL ret :: wAll) := fun w hw => by
  rcases List.mem_cons.mp hw with rfl | hw
  · exact ⟨h, wgood _ h⟩
  · exact ⟨hw, wgood _ hw⟩
/-- the end of a method: what comes back, and the heap picture behind -/
def QC (G : GG) (N0 : Nat) (post : Option Value → Hp → Prop) : Array Value → State → Outcome → State → Prop := fun _ st oc t => (∃ (v : Option Value) (σ' : Hp), oc = .returned v ∧ post v σ' ∧ HP G N0 σ' t.heap) ∧ va_F (AN N0) st t
def PB (G : GG) (N0 : Nat) (σ : Hp) (U : State) : Prop := N0 ≤ U.heap.size ∧ HP G N0 σ U.heap ∧ GE G N0 U
/-- METHOD y, called with av over the heap picture σ, returns with post; room: fr frames and lo words below it, mc cells of ms slots are new at most -/
def MM (l : Launch) (G : GG) (N0 : Nat) (y : MethodName) (cc : ByteArray) (maxL : Nat) (ret : Option FieldType) (fr lo mc ms : Nat) (av : List Value) (σ : Hp) (post : Option Value → Hp → Prop) : Prop :=
  Met l y (.code y cc maxL ret :: wAll) { frames := fr, cells := mc, slots := ms, locals := lo } (va_Pc av (PB G N0 σ)) (QC G N0 post) mc ms (AN N0)
theorem MM.of {l : Launch} {G : GG} {N0 : Nat} {y : MethodName} {cc : ByteArray} {maxL : Nat} {ret : Option FieldType} {fr lo mc ms : Nat} {av : List Value} {σ : Hp} {post : Option Value → Hp → Prop} (hy : plainName y.cls = true) (hlen : (lg_sl av).length ≤ maxL)
    (body : ∀ (p : Program) (e : Env) (s : State) (m : MethodId) (args : Array Value) (below : List Frame) (meth : Method) (c : Code), EX p s m args meth c G N0 y.cls cc maxL → meth.sig.returnType = ret → meth.name = y.name →
      V p l e { frames := fr, cells := mc, slots := ms, locals := lo } s m args below meth c (MQ below (QC G N0 post) args s mc ms (AN N0)) G N0 maxL σ 0 0 0 (lv_args 0 av) []) : MM l G N0 y cc maxL ret fr lo mc ms av σ post := by
  refine Met.ofW (cc := cc) (maxL := maxL) (ret := ret) hy rfl ?_
  intro p e s m args below meth c s₁ B hml hv
  obtain ⟨rfl, hsz, hH, hG⟩ := hv
  have hts := atoms_spec (ws := .code y cc maxL ret :: wAll) B.pre
  have hX : EX p s m av.toArray meth c G N0 y.cls cc maxL := ⟨B.exec, B.bytes, hml, findClass_of_methodNamed B.named, fun w h => hts w (List.mem_cons_of_mem _ h), B.notSynchronized, hG, hsz⟩
  have hV := body p e s m av.toArray below meth c hX B.returns (name_of_methodNamed B.named B.method).1
  have hl := lv_entry av (n := maxL) hlen
  rw [lg_entry_eq]
  exact hV s.heap [] _ hH va_S.rf hl
section CALL
variable {p : Program} {l : Launch} {e : Env} {R : Room} {s : State} {m : MethodId} {args : Array Value} {below : List Frame} {meth : Method} {c : Code} {Q : State → Prop} {G : GG} {N0 : Nat} {own : String} {cc : ByteArray} {nL : Nat}
variable {σ : Hp} {cu su pc : Nat} {lv lv' : List (Nat × Value)} {st : List Value}
theorem V_new (X : EX p s m args meth c G N0 own cc nL) {index t : Nat} (hf : NP own index t) (hcells : cu + 1 ≤ R.cells) (hslots : su + ncl t ≤ R.slots) (hd : decode cc pc = .ok (.new index, 3)) (kk : ∀ q : Nat, gk σ q = none → V p l e R s m args below meth c Q G N0 nL (nw σ q t 0) (cu + 1) (su + ncl t) (pc + 3) lv (.ref q :: st)) : V p l e R s m args below meth c Q G N0 nL σ cu su pc lv st := by
  intro H locs ls hH hS hL
  obtain ⟨L, hdom, hP, hD⟩ := id hH
  obtain ⟨r, ty0, hc, ht, hN, hin, h1, h2, h3, hty, hdef⟩ := hf
  have hw := X.2.2.2.2.1
  refine va_new (D := G.1) (ci := t) (fs := (List.range (ncl t)).map (dv t)) X.1 X.2.1 hw hin ty0 hty X.2.2.2.1 (hw _ h1) (hw _ h2) (hw _ h3) X.2.2.2.2.2.2.1.1 hP hD hS (fun q hq => Nat.le_trans X.2.2.2.2.2.2.2 hq) hc hdef hcells (by rw [hN]; exact hslots) hd (fun q H1 hP1 hD1 hS1 => ?_)
  obtain ⟨hq, hH1⟩ := HP.fresh (t := t) (n := 0) hdom hP1 hD1 (by
    rw [cF_of (show gk (nw σ q t 0) q = some (t, 0) by rw [gk_nw, if_pos rfl]), cE_obj ht]
    congr 2
    apply List.map_congr_left
    intro k _
    simp only [fv, dv, gi_nw, gl_nw, gr_nw]
    split <;> first | rfl | simp_all [va_rf])
  rw [hN]
  exact kk q hq H1 locs ls hH1 hS1 hL
theorem V_newi (X : EX p s m args meth c G N0 own cc nL) {v : Int32} {N : Nat} (hw1 : Cond.arrayClass .int ∈ wAll) (hn : ¬ v < 0) (hN : v.toNatClampNeg = N) (hb : N ≤ 100000) (hcells : cu + 1 ≤ R.cells) (hslots : su + N ≤ R.slots) (hd : decode cc pc = .ok (.newarray .int, 2)) (kk : ∀ q : Nat, gk σ q = none → V p l e R s m args below meth c Q G N0 nL (nw σ q 10 N) (cu + 1) (su + N) (pc + 2) lv (.ref q :: st)) : V p l e R s m args below meth c Q G N0 nL σ cu su pc lv (.int v :: st) := by
  intro H locs ls hH hS hL
  obtain ⟨L, hdom, hP, hD⟩ := id hH
  have hw := X.2.2.2.2.1
  have hK := X.2.2.2.2.2.2.1.1
  refine va_newa (D := G.1) (atype := .int) X.1 X.2.1 (hw _ hw1) rfl hK hP hD hS (fun q hq => Nat.le_trans X.2.2.2.2.2.2.2 hq) (a0 := (N, .inl (fun _ => 0))) (fun cA => rfl) hn hN (by show N * 4 ≤ _; omega) hcells hslots hd (fun q cA H1 hK1 hP1 hD1 hS1 => ?_)
  have hcA : cA = G.2.1 10 := ra_eq (hK1.2 4 (cA, .int) rfl).2 (hK.2 0 (G.2.1 10, .int) rfl).2
  subst hcA
  obtain ⟨hq, hH1⟩ := HP.fresh (t := 10) (n := N) hdom hP1 hD1 (by
    rw [cF_of (show gk (nw σ q 10 N) q = some (10, N) by rw [gk_nw, if_pos rfl]), cE_ia (by decide) (by decide)]
    have : gi (nw σ q 10 N) q = fun _ => 0 := by funext j; rw [gi_nw, if_pos rfl]
    rw [this])
  exact kk q hq H1 locs ls hH1 hS1 hL
theorem V_newz (X : EX p s m args meth c G N0 own cc nL) {v : Int32} {N : Nat} (hw1 : Cond.arrayClass .boolean ∈ wAll) (hn : ¬ v < 0) (hN : v.toNatClampNeg = N) (hb : N ≤ 100000) (hcells : cu + 1 ≤ R.cells) (hslots : su + N ≤ R.slots) (hd : decode cc pc = .ok (.newarray .boolean, 2)) (kk : ∀ q : Nat, gk σ q = none → V p l e R s m args below meth c Q G N0 nL (nw σ q 11 N) (cu + 1) (su + N) (pc + 2) lv (.ref q :: st)) : V p l e R s m args below meth c Q G N0 nL σ cu su pc lv (.int v :: st) := by
  intro H locs ls hH hS hL
  obtain ⟨L, hdom, hP, hD⟩ := id hH
  have hw := X.2.2.2.2.1
  have hK := X.2.2.2.2.2.2.1.1
  refine va_newa (D := G.1) (atype := .boolean) X.1 X.2.1 (hw _ hw1) rfl hK hP hD hS (fun q hq => Nat.le_trans X.2.2.2.2.2.2.2 hq) (a0 := (N, .inl (fun _ => 0))) (fun cA => rfl) hn hN (by show N * 1 ≤ _; omega) hcells hslots hd (fun q cA H1 hK1 hP1 hD1 hS1 => ?_)
  have hcA : cA = G.2.1 11 := ra_eq (hK1.2 4 (cA, .boolean) rfl).2 (hK.2 1 (G.2.1 11, .boolean) rfl).2
  subst hcA
  obtain ⟨hq, hH1⟩ := HP.fresh (t := 11) (n := N) hdom hP1 hD1 (by
    rw [cF_of (show gk (nw σ q 11 N) q = some (11, N) by rw [gk_nw, if_pos rfl]), cE_ia (by decide) (by decide)]
    have : gi (nw σ q 11 N) q = fun _ => 0 := by funext j; rw [gi_nw, if_pos rfl]
    rw [this])
  exact kk q hq H1 locs ls hH1 hS1 hL
theorem V_newq (X : EX p s m args meth c G N0 own cc nL) {v : Int32} {N t index : Nat} {C : String} (ht : t = 12 ∧ C = "PaperRows$Reader" ∨ t = 13 ∧ C = "PaperRows$Row") (hlk : Cond.classLink own index C ∈ wAll) (hn : ¬ v < 0) (hN : v.toNatClampNeg = N) (hb : N ≤ 100000) (hcells : cu + 1 ≤ R.cells) (hslots : su + N ≤ R.slots) (hd : decode cc pc = .ok (.anewarray index, 3)) (kk : ∀ q : Nat, gk σ q = none → V p l e R s m args below meth c Q G N0 nL (nw σ q t N) (cu + 1) (su + N) (pc + 3) lv (.ref q :: st)) : V p l e R s m args below meth c Q G N0 nL σ cu su pc lv (.int v :: st) := by
  intro H locs ls hH hS hL
  obtain ⟨L, hdom, hP, hD⟩ := id hH
  have hw := X.2.2.2.2.1
  have hK := X.2.2.2.2.2.2.1.1
  have hO : va_AO C s := by rcases ht with ⟨-, rfl⟩ | ⟨-, rfl⟩; exact X.2.2.2.2.2.2.1.2.2.1.2; exact X.2.2.2.2.2.2.1.2.2.1.1
  refine va_newq (D := G.1) X.1 X.2.1 X.2.2.2.1 (hw _ hlk) hO hK hP hD hS (fun q hq => Nat.le_trans X.2.2.2.2.2.2.2 hq) hn hN (by omega) hcells hslots hd (fun q cA H1 hK1 hP1 hD1 hS1 => ?_)
  have hcA : cA = G.2.1 t := by
    rcases ht with ⟨rfl, rfl⟩ | ⟨rfl, rfl⟩
    · exact ra_eq (hK1.2 4 (cA, .object "PaperRows$Reader") rfl).2 (hK.2 2 (G.2.1 12, .object "PaperRows$Reader") rfl).2
    · exact ra_eq (hK1.2 4 (cA, .object "PaperRows$Row") rfl).2 (hK.2 3 (G.2.1 13, .object "PaperRows$Row") rfl).2
  subst hcA
  obtain ⟨hq, hH1⟩ := HP.fresh (t := t) (n := N) hdom hP1 hD1 (by
    rw [cF_of (show gk (nw σ q t N) q = some (t, N) by rw [gk_nw, if_pos rfl]), cE_qa (by rcases ht with ⟨rfl, -⟩ | ⟨rfl, -⟩ <;> decide)]
    have : gr (nw σ q t N) q = fun _ => none := by funext j; rw [gr_nw, if_pos rfl]
    rw [this])
  exact kk q hq H1 locs ls hH1 hS1 hL
/-- what a call needs of the frame -/
theorem pre_call (X : EX p s m args meth c G N0 own cc nL) {H : Heap} {locs : List Loc} (hH : HP G N0 σ H) (hS : va_S (AN N0) s.heap H locs) : ∀ U : State, U.heap = H → s.WarmedH U.vm → PB G N0 σ U := fun U hU hW => by
  refine ⟨by rw [hU]; exact Nat.le_trans X.2.2.2.2.2.2.2 hS.1, by rw [hU]; exact hH, GE.step X.2.2.2.2.2.2.1 hW fun a h1 h2 => ?_⟩
  rw [hU]
  exact hS.2.1 a h1 h2
theorem blind_PB {av : List Value} : FrameBlind (va_Pc av (PB G N0 σ)) := fun a U g mk q => ⟨q.1, q.2.1, q.2.2.1, GE.same (u := U) rfl rfl q.2.2.2⟩
theorem V_back (X : EX p s m args meth c G N0 own cc nL) {mc ms : Nat} {a : Array Value} {st0 : List Value} {post : Option Value → Hp → Prop} {H : Heap} {locs : List Loc} {ls : Array Slot} (hS : va_S (AN N0) s.heap H locs) (hL : lv_has ls nL lv) (hr : va_Run p l e R s m args below meth c H locs cu su mc ms (F0 m pc ls st0) st (QC G N0 post a) (AN N0))
    (kk : ∀ (v : Option Value) (σ' : Hp), post v σ' → V p l e R s m args below meth c Q G N0 nL σ' (cu + mc) (su + ms) (pc + 3) lv (v.toList ++ st)) : W p l e R s m args below meth c H locs cu su Q (F0 m pc ls st0) := by
  intro T hT X0
  obtain ⟨v0, st₀, t, T', L, h0, X', hL2, e1, e2, ⟨⟨v, σ', hv, hp, hb⟩, hz, hk⟩, stp⟩ := hr T hT X0
  cases hv
  rw [h0] at hz hk
  obtain ⟨t2, a1, b1⟩ := kk _ σ' hp T'.heap (locs ++ L) ls (by rw [e1]; exact hb) ⟨Nat.le_trans hS.1 (by rw [e1]; exact hz), fun q h1 h2 => by rw [e1, hk q (Nat.lt_of_lt_of_le h1 hS.1) h2]; exact hS.2.1 q h1 h2, fun q hq => by
      rcases List.mem_append.mp hq with h | h
      · exact hS.2.2 q h
      · exact hL2 q h⟩ hL T' rfl X'
  exact ⟨t2, stp t2 a1, b1⟩
theorem V_callV (X : EX p s m args meth c G N0 own cc nL) {index maxL fr lo mc ms n b t z : Nat} {y : MethodName} {bytes : ByteArray} {ret : Option FieldType} {As stk : List Value} {post : Option Value → Hp → Prop} (hw : CW own index y bytes maxL ret n) (hinst : Cond.instanceMethod y ∈ wAll) (hsel : Cond.selects y.cls y y ∈ lw_tbl) (hsg : goodWord (Cond.selects y.cls y y) = true)
    (hM : MM l G N0 y bytes maxL ret fr lo mc ms (.ref b :: As) σ post) (hkd : gk σ b = some (t, z)) (ht : t < 10) (hcls : (vwCl[t]?).map (fun r => r.1) = some y.cls) (hn : As.length = n) (hR : fr + 1 ≤ R.frames ∧ 8 + (maxL + 11) + lo ≤ R.locals) (hcat : (st.map fun v => v.category).sum ≤ 8) (hf : cu + mc ≤ R.cells ∧ su + ms ≤ R.slots) (hstk : stk = As.reverse ++ .ref b :: st) (hd : decode cc pc = .ok (.invokevirtual index, 3))
    (kk : ∀ (v : Option Value) (σ' : Hp), post v σ' → V p l e R s m args below meth c Q G N0 nL σ' (cu + mc) (su + ms) (pc + 3) lv (v.toList ++ st)) : V p l e R s m args below meth c Q G N0 nL σ cu su pc lv stk := by
  intro H locs ls hH hS hL
  obtain ⟨L, hdom, hP, hD⟩ := id hH
  obtain ⟨q, hq, hq2, hm⟩ := HP.at (N0 := N0) (H := H) (G := G) hdom hkd
  rw [cE_obj ht] at hq
  obtain ⟨h1, h2, h3, h4, h5, h6⟩ := hw
  have hts := X.2.2.2.2.1
  obtain ⟨r, hr1, hr2⟩ := Option.map_eq_some_iff.mp hcls
  refine V_back X hS hL (va_runV (C := y.cls) (As := As) (b := b) ⟨X.1, X.2.1, X.2.2.1, X.2.2.2.1, hts⟩ hM ⟨callB_of n hts (goodIn_code h3) rfl rfl rfl (hts _ h2) (hts _ h1) ⟨h4, h5, h6⟩ hR, hts _ hinst, hts _ (wm hsel hsg)⟩ ⟨blind_PB, ?_, fun U hU hW => ⟨rfl, pre_call X hH hS U hU hW⟩⟩ rfl hn hL.1 hstk (lv_room hcat) hd hf) kk
  have := va_recv X.2.2.2.2.2.2.1.1 hP hr1 hq
  rw [hr2] at this
  exact this
theorem V_callS (X : EX p s m args meth c G N0 own cc nL) {index maxL fr lo mc ms n : Nat} {y : MethodName} {bytes : ByteArray} {ret : Option FieldType} {As stk : List Value} {post : Option Value → Hp → Prop} (hw : CW own index y bytes maxL ret n) (hstat : Cond.static y ∈ wAll)
    (hM : MM l G N0 y bytes maxL ret fr lo mc ms As σ post) (hn : As.length = n) (hR : fr + 1 ≤ R.frames ∧ 8 + (maxL + 11) + lo ≤ R.locals) (hcat : (st.map fun v => v.category).sum ≤ 8) (hf : cu + mc ≤ R.cells ∧ su + ms ≤ R.slots) (hstk : stk = As.reverse ++ st) (hd : decode cc pc = .ok (.invokestatic index, 3))
    (kk : ∀ (v : Option Value) (σ' : Hp), post v σ' → V p l e R s m args below meth c Q G N0 nL σ' (cu + mc) (su + ms) (pc + 3) lv (v.toList ++ st)) : V p l e R s m args below meth c Q G N0 nL σ cu su pc lv stk := by
  intro H locs ls hH hS hL
  obtain ⟨h1, h2, h3, h4, h5, h6⟩ := hw
  have hts := X.2.2.2.2.1
  exact V_back X hS hL (va_runS (As := As) ⟨X.1, X.2.1, X.2.2.1, X.2.2.2.1, hts⟩ hM ⟨callB_of n hts (goodIn_code h3) rfl rfl rfl (hts _ h2) (hts _ h1) ⟨h4, h5, h6⟩ hR, hts _ hstat⟩ ⟨blind_PB, fun U hU hW => ⟨rfl, pre_call X hH hS U hU hW⟩⟩ rfl hn hL.1 hstk (lv_room hcat) hd hf) kk
theorem V_callI (X : EX p s m args meth c G N0 own cc nL) {index maxL fr lo mc ms n b : Nat} {y : MethodName} {bytes : ByteArray} {As stk : List Value} {post : Option Value → Hp → Prop} (hw : CW own index y bytes maxL none n) (hinst : Cond.instanceMethod y ∈ wAll) (hy1 : y.name = "<init>")
    (hM : MM l G N0 y bytes maxL none fr lo mc ms (.ref b :: As) σ post) (hn : As.length = n) (hR : fr + 1 ≤ R.frames ∧ 8 + (maxL + 11) + lo ≤ R.locals) (hcat : (st.map fun v => v.category).sum ≤ 8) (hf : cu + mc ≤ R.cells ∧ su + ms ≤ R.slots) (hstk : stk = As.reverse ++ .ref b :: st) (hd : decode cc pc = .ok (.invokespecial index, 3))
    (kk : ∀ (v : Option Value) (σ' : Hp), post v σ' → V p l e R s m args below meth c Q G N0 nL σ' (cu + mc) (su + ms) (pc + 3) lv (v.toList ++ st)) : V p l e R s m args below meth c Q G N0 nL σ cu su pc lv stk := by
  intro H locs ls hH hS hL
  obtain ⟨h1, h2, h3, h4, h5, h6⟩ := hw
  have hts := X.2.2.2.2.1
  exact V_back X hS hL (va_runI (As := As) (b := b) ⟨X.1, X.2.1, X.2.2.1, X.2.2.2.1, hts⟩ hM ⟨callB_of n hts (goodIn_code h3) rfl rfl rfl (hts _ h2) (hts _ h1) ⟨h4, h5, h6⟩ hR, hy1, hts _ hinst⟩ ⟨blind_PB, fun U hU hW => ⟨rfl, pre_call X hH hS U hU hW⟩⟩ rfl hn hL.1 hstk (lv_room hcat) hd hf) kk
theorem V_callIN (X : EX p s m args meth c G N0 own cc nL) {index maxL fr lo mc ms n b : Nat} {y : MethodName} {host : String} {bytes : ByteArray} {As stk : List Value} {post : Option Value → Hp → Prop} (hw : CN own index y host bytes maxL none n) (hinst : Cond.instanceMethod y ∈ wAll) (hy1 : y.name = "<init>")
    (hM : MM l G N0 y bytes maxL none fr lo mc ms (.ref b :: As) σ post) (hn : As.length = n) (hR : fr + 1 ≤ R.frames ∧ 8 + (maxL + 11) + lo ≤ R.locals) (hcat : (st.map fun v => v.category).sum ≤ 8) (hf : cu + mc ≤ R.cells ∧ su + ms ≤ R.slots) (hstk : stk = As.reverse ++ .ref b :: st) (hd : decode cc pc = .ok (.invokespecial index, 3))
    (kk : ∀ (v : Option Value) (σ' : Hp), post v σ' → V p l e R s m args below meth c Q G N0 nL σ' (cu + mc) (su + ms) (pc + 3) lv (v.toList ++ st)) : V p l e R s m args below meth c Q G N0 nL σ cu su pc lv stk := by
  intro H locs ls hH hS hL
  obtain ⟨h1, h2, h3, h4, h5, h6⟩ := hw
  have hts := X.2.2.2.2.1
  exact V_back X hS hL (va_runIN (As := As) (b := b) ⟨X.1, X.2.1, X.2.2.1, X.2.2.2.1, hts⟩ hM ⟨va_cnB n hts (goodIn_code h3) rfl rfl rfl (X.2.2.2.2.2.2.1.2.1 _ h1) (hts _ h2) ⟨h4, h5, h6⟩ hR, hy1, hts _ hinst⟩ ⟨blind_PB, fun U hU hW => ⟨rfl, pre_call X hH hS U hU hW⟩⟩ rfl hn hL.1 hstk (lv_room hcat) hd hf) kk
theorem V_callSN (X : EX p s m args meth c G N0 own cc nL) {index maxL fr lo mc ms n : Nat} {y : MethodName} {host : String} {bytes : ByteArray} {ret : Option FieldType} {As stk : List Value} {post : Option Value → Hp → Prop} (hw : CN own index y host bytes maxL ret n) (hstat : Cond.static y ∈ wAll)
    (hM : MM l G N0 y bytes maxL ret fr lo mc ms As σ post) (hn : As.length = n) (hR : fr + 1 ≤ R.frames ∧ 8 + (maxL + 11) + lo ≤ R.locals) (hcat : (st.map fun v => v.category).sum ≤ 8) (hf : cu + mc ≤ R.cells ∧ su + ms ≤ R.slots) (hstk : stk = As.reverse ++ st) (hd : decode cc pc = .ok (.invokestatic index, 3))
    (kk : ∀ (v : Option Value) (σ' : Hp), post v σ' → V p l e R s m args below meth c Q G N0 nL σ' (cu + mc) (su + ms) (pc + 3) lv (v.toList ++ st)) : V p l e R s m args below meth c Q G N0 nL σ cu su pc lv stk := by
  intro H locs ls hH hS hL
  obtain ⟨h1, h2, h3, h4, h5, h6⟩ := hw
  have hts := X.2.2.2.2.1
  exact V_back X hS hL (va_runSN (As := As) ⟨X.1, X.2.1, X.2.2.1, X.2.2.2.1, hts⟩ hM ⟨va_cnB n hts (goodIn_code h3) rfl rfl rfl (X.2.2.2.2.2.2.1.2.1 _ h1) (hts _ h2) ⟨h4, h5, h6⟩ hR, hts _ hstat, trivial⟩ ⟨blind_PB, fun U hU hW => ⟨rfl, pre_call X hH hS U hU hW⟩⟩ rfl hn hL.1 hstk (lv_room hcat) hd hf) kk
theorem V_objInit (X : EX p s m args meth c G N0 own cc nL) {index a : Nat} (h1 : Cond.methodLink own index objectInit ∈ wAll) (h2 : Cond.instanceMethod objectInit ∈ wAll) (h3 : Cond.code objectInit ⟨#[0xb1]⟩ 1 none ∈ wAll) (hcat : (st.map fun v => v.category).sum ≤ 8) (hR : 1 ≤ R.frames ∧ 20 ≤ R.locals) (hd : decode cc pc = .ok (.invokespecial index, 3)) (kk : V p l e R s m args below meth c Q G N0 nL σ cu su (pc + 3) lv st) : V p l e R s m args below meth c Q G N0 nL σ cu su pc lv (.ref a :: st) := fun H locs ls hH hS hL => by
  have hts := X.2.2.2.2.1
  refine W.objInit X.1 X.2.1 X.2.2.2.1 (hts _ h1) (hts _ h2) (hts _ h3) rfl (by rw [X.2.2.1]; exact hL.1) rfl hd hR.1 ?_ (kk H locs ls hH hS hL)
  have := lv_room (m := m) (pc := pc) (ls := ls) (rest := .ref a :: st) hcat
  omega
theorem qc_end {post : Option Value → Hp → Prop} {v : Option Value} {H : Heap} {locs : List Loc} (hp : post v σ) (hH : HP G N0 σ H) (hS : va_S (AN N0) s.heap H locs) : ∀ t : State, t.heap = H → s.WarmedH t.vm → QC G N0 post args s (.returned v) t := fun t ht _ => ⟨⟨v, σ, rfl, hp, by rw [ht]; exact hH⟩, hS.F ht⟩
theorem V_iret (X : EX p s m args meth c G N0 own cc nL) {mc ms : Nat} {v : Int32} {ty : FieldType} {post : Option Value → Hp → Prop} (hr : meth.sig.returnType = some ty) (hz : ty = .int ∨ ty = .boolean ∧ (v = 0 ∨ v = 1)) (hc : cu ≤ mc) (hs : su ≤ ms) (hd : decode cc pc = .ok (.ireturn, 1)) (hp : post (some (.int v)) σ) : V p l e R s m args below meth c (MQ below (QC G N0 post) args s mc ms (AN N0)) G N0 nL σ cu su pc lv [.int v] := fun H locs ls hH hS hL =>
  W.widen hc hs (W.zret X.1 X.2.1 hr (by rcases hz with rfl | ⟨rfl, rfl | rfl⟩ <;> rfl) (qc_end hp hH hS) hS.2.2 hd X.2.2.2.2.2.1)
theorem V_lret (X : EX p s m args meth c G N0 own cc nL) {mc ms : Nat} {v : Int64} {post : Option Value → Hp → Prop} (hr : meth.sig.returnType = some .long) (hc : cu ≤ mc) (hs : su ≤ ms) (hd : decode cc pc = .ok (.lreturn, 1)) (hp : post (some (.long v)) σ) : V p l e R s m args below meth c (MQ below (QC G N0 post) args s mc ms (AN N0)) G N0 nL σ cu su pc lv [.long v] := fun H locs ls hH hS hL =>
  W.widen hc hs (W.lret X.1 X.2.1 hr (qc_end hp hH hS) hS.2.2 hd X.2.2.2.2.2.1)
theorem V_aret (X : EX p s m args meth c G N0 own cc nL) {mc ms : Nat} {v : Option Nat} {rt : FieldType} {post : Option Value → Hp → Prop} (hr : meth.sig.returnType = some rt) (hrt : (∃ n, rt = .object n) ∨ ∃ t, rt = .array t) (hc : cu ≤ mc) (hs : su ≤ ms) (hd : decode cc pc = .ok (.areturn, 1)) (hp : post (some (va_rf v)) σ) : V p l e R s m args below meth c (MQ below (QC G N0 post) args s mc ms (AN N0)) G N0 nL σ cu su pc lv [va_rf v] := fun H locs ls hH hS hL =>
  W.widen hc hs (W.aret X.1 X.2.1 hr hrt (by cases v with | none => exact Or.inl rfl | some a => exact Or.inr ⟨a, rfl⟩) (qc_end hp hH hS) hS.2.2 hd X.2.2.2.2.2.1)
theorem V_vret (X : EX p s m args meth c G N0 own cc nL) {mc ms : Nat} {post : Option Value → Hp → Prop} (hr : meth.sig.returnType = none) (hc : cu ≤ mc) (hs : su ≤ ms) (hd : decode cc pc = .ok (.return_, 1)) (hp : post none σ) : V p l e R s m args below meth c (MQ below (QC G N0 post) args s mc ms (AN N0)) G N0 nL σ cu su pc lv [] := fun H locs ls hH hS hL =>
  W.widen hc hs (W.vret X.1 X.2.1 hr (qc_end hp hH hS) hS.2.2 hd X.2.2.2.2.2.1)
end CALL
end
